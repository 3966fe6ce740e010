section
-- ===== PART A: goes FIRST, ahead of the names: the tables' words, and 'selects' of the private methods out of them =====
/-- a private method of a class that the tables say can be made, by its rows of tables_1 -/
def lw_okq (q : MethodName × Nat) : Prop := (q.1.cls ≠ "java/lang/invoke/MethodHandle" ∧ q.1.cls ≠ "java/lang/invoke/VarHandle") ∧ Cond.instantiable q.1.cls q.2 ∈ tables_1 ∧ Cond.privateMethod q.1 ∈ tables_1 ∧ Cond.instanceMethod q.1 ∈ tables_1
theorem lw_p0 : lw_okq (⟨"DustySayings$Room", "quipGathers", "(I)I"⟩, 15) := ⟨⟨by decide +kernel, by decide +kernel⟩, List.mem_of_getElem? (i := 56) (by decide +kernel), List.mem_of_getElem? (i := 288) (by decide +kernel), List.mem_of_getElem? (i := 289) (by decide +kernel)⟩
theorem lw_p1 : lw_okq (⟨"DustySayings$Room", "plainBloom", "(I)I"⟩, 15) := ⟨⟨by decide +kernel, by decide +kernel⟩, List.mem_of_getElem? (i := 56) (by decide +kernel), List.mem_of_getElem? (i := 292) (by decide +kernel), List.mem_of_getElem? (i := 293) (by decide +kernel)⟩
theorem lw_p2 : lw_okq (⟨"DustySayings$Laws", "leaf", "(I)I"⟩, 6) := ⟨⟨by decide +kernel, by decide +kernel⟩, List.mem_of_getElem? (i := 26) (by decide +kernel), List.mem_of_getElem? (i := 315) (by decide +kernel), List.mem_of_getElem? (i := 316) (by decide +kernel)⟩
theorem lw_p3 : lw_okq (⟨"DustySayings$Room", "othersBeside", "(II)I"⟩, 15) := ⟨⟨by decide +kernel, by decide +kernel⟩, List.mem_of_getElem? (i := 56) (by decide +kernel), List.mem_of_getElem? (i := 334) (by decide +kernel), List.mem_of_getElem? (i := 335) (by decide +kernel)⟩
theorem lw_p4 : lw_okq (⟨"DustySayings", "isEnoughShine", "(II)Z"⟩, 11) := ⟨⟨by decide +kernel, by decide +kernel⟩, List.mem_of_getElem? (i := 18) (by decide +kernel), List.mem_of_getElem? (i := 495) (by decide +kernel), List.mem_of_getElem? (i := 496) (by decide +kernel)⟩
theorem lw_p5 : lw_okq (⟨"DustySayings", "gatherDifferences", "(LDustySayings$Sheet;)V"⟩, 11) := ⟨⟨by decide +kernel, by decide +kernel⟩, List.mem_of_getElem? (i := 18) (by decide +kernel), List.mem_of_getElem? (i := 532) (by decide +kernel), List.mem_of_getElem? (i := 533) (by decide +kernel)⟩
theorem lw_p6 : lw_okq (⟨"DustySayings$Tape", "pass", "()V"⟩, 9) := ⟨⟨by decide +kernel, by decide +kernel⟩, List.mem_of_getElem? (i := 123) (by decide +kernel), List.mem_of_getElem? (i := 585) (by decide +kernel), List.mem_of_getElem? (i := 586) (by decide +kernel)⟩
theorem lw_p7 : lw_okq (⟨"DustySayings$Tape", "sortAt", "(I)I"⟩, 9) := ⟨⟨by decide +kernel, by decide +kernel⟩, List.mem_of_getElem? (i := 123) (by decide +kernel), List.mem_of_getElem? (i := 589) (by decide +kernel), List.mem_of_getElem? (i := 590) (by decide +kernel)⟩
theorem lw_p8 : lw_okq (⟨"DustySayings$Tape", "readKey", "()Z"⟩, 9) := ⟨⟨by decide +kernel, by decide +kernel⟩, List.mem_of_getElem? (i := 123) (by decide +kernel), List.mem_of_getElem? (i := 595) (by decide +kernel), List.mem_of_getElem? (i := 596) (by decide +kernel)⟩
theorem lw_p9 : lw_okq (⟨"DustySayings$Tape", "isWord", "(Ljava/lang/String;)Z"⟩, 9) := ⟨⟨by decide +kernel, by decide +kernel⟩, List.mem_of_getElem? (i := 123) (by decide +kernel), List.mem_of_getElem? (i := 605) (by decide +kernel), List.mem_of_getElem? (i := 606) (by decide +kernel)⟩
theorem lw_p10 : lw_okq (⟨"DustySayings$Tape", "readJoined", "(III)Z"⟩, 9) := ⟨⟨by decide +kernel, by decide +kernel⟩, List.mem_of_getElem? (i := 123) (by decide +kernel), List.mem_of_getElem? (i := 657) (by decide +kernel), List.mem_of_getElem? (i := 658) (by decide +kernel)⟩
theorem lw_p11 : lw_okq (⟨"DustySayings$Tape", "readPiece", "(II)Z"⟩, 9) := ⟨⟨by decide +kernel, by decide +kernel⟩, List.mem_of_getElem? (i := 123) (by decide +kernel), List.mem_of_getElem? (i := 661) (by decide +kernel), List.mem_of_getElem? (i := 662) (by decide +kernel)⟩
theorem lw_p12 : lw_okq (⟨"DustySayings$Tape", "readNumber", "()Z"⟩, 9) := ⟨⟨by decide +kernel, by decide +kernel⟩, List.mem_of_getElem? (i := 123) (by decide +kernel), List.mem_of_getElem? (i := 665) (by decide +kernel), List.mem_of_getElem? (i := 666) (by decide +kernel)⟩
theorem lw_p13 : lw_okq (⟨"DustySayings$Tape", "writeLeaf", "(I)V"⟩, 9) := ⟨⟨by decide +kernel, by decide +kernel⟩, List.mem_of_getElem? (i := 123) (by decide +kernel), List.mem_of_getElem? (i := 669) (by decide +kernel), List.mem_of_getElem? (i := 670) (by decide +kernel)⟩
theorem lw_p14 : lw_okq (⟨"DustySayings$Tape", "write", "(I)V"⟩, 9) := ⟨⟨by decide +kernel, by decide +kernel⟩, List.mem_of_getElem? (i := 123) (by decide +kernel), List.mem_of_getElem? (i := 673) (by decide +kernel), List.mem_of_getElem? (i := 674) (by decide +kernel)⟩
theorem lw_p15 : lw_okq (⟨"DustySayings$Tape", "readName", "()Z"⟩, 9) := ⟨⟨by decide +kernel, by decide +kernel⟩, List.mem_of_getElem? (i := 123) (by decide +kernel), List.mem_of_getElem? (i := 677) (by decide +kernel), List.mem_of_getElem? (i := 678) (by decide +kernel)⟩
def lw_privs_1 : List (MethodName × Nat) := [(⟨"DustySayings$Room", "quipGathers", "(I)I"⟩, 15), (⟨"DustySayings$Room", "plainBloom", "(I)I"⟩, 15), (⟨"DustySayings$Laws", "leaf", "(I)I"⟩, 6), (⟨"DustySayings$Room", "othersBeside", "(II)I"⟩, 15), (⟨"DustySayings", "isEnoughShine", "(II)Z"⟩, 11), (⟨"DustySayings", "gatherDifferences", "(LDustySayings$Sheet;)V"⟩, 11), (⟨"DustySayings$Tape", "pass", "()V"⟩, 9), (⟨"DustySayings$Tape", "sortAt", "(I)I"⟩, 9), (⟨"DustySayings$Tape", "readKey", "()Z"⟩, 9), (⟨"DustySayings$Tape", "isWord", "(Ljava/lang/String;)Z"⟩, 9), (⟨"DustySayings$Tape", "readJoined", "(III)Z"⟩, 9), (⟨"DustySayings$Tape", "readPiece", "(II)Z"⟩, 9), (⟨"DustySayings$Tape", "readNumber", "()Z"⟩, 9), (⟨"DustySayings$Tape", "writeLeaf", "(I)V"⟩, 9), (⟨"DustySayings$Tape", "write", "(I)V"⟩, 9), (⟨"DustySayings$Tape", "readName", "()Z"⟩, 9)]
theorem lw_r1 : ∀ q ∈ lw_privs_1, lw_okq q := List.forall_mem_cons.mpr ⟨lw_p0, List.forall_mem_cons.mpr ⟨lw_p1, List.forall_mem_cons.mpr ⟨lw_p2, List.forall_mem_cons.mpr ⟨lw_p3, List.forall_mem_cons.mpr ⟨lw_p4, List.forall_mem_cons.mpr ⟨lw_p5, List.forall_mem_cons.mpr ⟨lw_p6, List.forall_mem_cons.mpr ⟨lw_p7, List.forall_mem_cons.mpr ⟨lw_p8, List.forall_mem_cons.mpr ⟨lw_p9, List.forall_mem_cons.mpr ⟨lw_p10, List.forall_mem_cons.mpr ⟨lw_p11, List.forall_mem_cons.mpr ⟨lw_p12, List.forall_mem_cons.mpr ⟨lw_p13, List.forall_mem_cons.mpr ⟨lw_p14, List.forall_mem_cons.mpr ⟨lw_p15, fun _ h => absurd h List.not_mem_nil⟩⟩⟩⟩⟩⟩⟩⟩⟩⟩⟩⟩⟩⟩⟩⟩
theorem lw_p16 : lw_okq (⟨"DustySayings$Tape", "isSignOf", "(Ljava/lang/String;)Z"⟩, 9) := ⟨⟨by decide +kernel, by decide +kernel⟩, List.mem_of_getElem? (i := 123) (by decide +kernel), List.mem_of_getElem? (i := 743) (by decide +kernel), List.mem_of_getElem? (i := 744) (by decide +kernel)⟩
theorem lw_p17 : lw_okq (⟨"DustySayings$Tape", "readClosing", "()Z"⟩, 9) := ⟨⟨by decide +kernel, by decide +kernel⟩, List.mem_of_getElem? (i := 123) (by decide +kernel), List.mem_of_getElem? (i := 748) (by decide +kernel), List.mem_of_getElem? (i := 749) (by decide +kernel)⟩
theorem lw_p18 : lw_okq (⟨"DustySayingsModel", "comes", "(IIII)I"⟩, 33) := ⟨⟨by decide +kernel, by decide +kernel⟩, List.mem_of_getElem? (i := 864) (by decide +kernel), List.mem_of_getElem? (i := 984) (by decide +kernel), List.mem_of_getElem? (i := 985) (by decide +kernel)⟩
theorem lw_p19 : lw_okq (⟨"DustySayingsModel", "put", "(III)V"⟩, 33) := ⟨⟨by decide +kernel, by decide +kernel⟩, List.mem_of_getElem? (i := 864) (by decide +kernel), List.mem_of_getElem? (i := 988) (by decide +kernel), List.mem_of_getElem? (i := 989) (by decide +kernel)⟩
theorem lw_p20 : lw_okq (⟨"DustySayingsModel", "isSaying", "(I)Z"⟩, 33) := ⟨⟨by decide +kernel, by decide +kernel⟩, List.mem_of_getElem? (i := 864) (by decide +kernel), List.mem_of_getElem? (i := 996) (by decide +kernel), List.mem_of_getElem? (i := 997) (by decide +kernel)⟩
theorem lw_p21 : lw_okq (⟨"DustySayingsModel", "of", "(II)I"⟩, 33) := ⟨⟨by decide +kernel, by decide +kernel⟩, List.mem_of_getElem? (i := 864) (by decide +kernel), List.mem_of_getElem? (i := 1000) (by decide +kernel), List.mem_of_getElem? (i := 1001) (by decide +kernel)⟩
theorem lw_p22 : lw_okq (⟨"DustySayingsModel", "gathers", "(I)I"⟩, 33) := ⟨⟨by decide +kernel, by decide +kernel⟩, List.mem_of_getElem? (i := 864) (by decide +kernel), List.mem_of_getElem? (i := 1004) (by decide +kernel), List.mem_of_getElem? (i := 1005) (by decide +kernel)⟩
theorem lw_p23 : lw_okq (⟨"DustySayingsModel", "plainBloom", "(I)I"⟩, 33) := ⟨⟨by decide +kernel, by decide +kernel⟩, List.mem_of_getElem? (i := 864) (by decide +kernel), List.mem_of_getElem? (i := 1008) (by decide +kernel), List.mem_of_getElem? (i := 1009) (by decide +kernel)⟩
theorem lw_p24 : lw_okq (⟨"DustySayingsModel", "counts", "(I)I"⟩, 33) := ⟨⟨by decide +kernel, by decide +kernel⟩, List.mem_of_getElem? (i := 864) (by decide +kernel), List.mem_of_getElem? (i := 1012) (by decide +kernel), List.mem_of_getElem? (i := 1013) (by decide +kernel)⟩
theorem lw_p25 : lw_okq (⟨"DustySayingsModel", "saidIn", "(I)I"⟩, 33) := ⟨⟨by decide +kernel, by decide +kernel⟩, List.mem_of_getElem? (i := 864) (by decide +kernel), List.mem_of_getElem? (i := 1016) (by decide +kernel), List.mem_of_getElem? (i := 1017) (by decide +kernel)⟩
theorem lw_p26 : lw_okq (⟨"DustySayingsModel", "worksOut", "(I)I"⟩, 33) := ⟨⟨by decide +kernel, by decide +kernel⟩, List.mem_of_getElem? (i := 864) (by decide +kernel), List.mem_of_getElem? (i := 1023) (by decide +kernel), List.mem_of_getElem? (i := 1024) (by decide +kernel)⟩
theorem lw_p27 : lw_okq (⟨"DustySayingsModel", "fellows", "(III)I"⟩, 33) := ⟨⟨by decide +kernel, by decide +kernel⟩, List.mem_of_getElem? (i := 864) (by decide +kernel), List.mem_of_getElem? (i := 1033) (by decide +kernel), List.mem_of_getElem? (i := 1034) (by decide +kernel)⟩
theorem lw_p28 : lw_okq (⟨"DustySayingsModel", "draws", "(I)I"⟩, 33) := ⟨⟨by decide +kernel, by decide +kernel⟩, List.mem_of_getElem? (i := 864) (by decide +kernel), List.mem_of_getElem? (i := 1037) (by decide +kernel), List.mem_of_getElem? (i := 1038) (by decide +kernel)⟩
theorem lw_p29 : lw_okq (⟨"DustySayingsModel", "worthOf", "(I)I"⟩, 33) := ⟨⟨by decide +kernel, by decide +kernel⟩, List.mem_of_getElem? (i := 864) (by decide +kernel), List.mem_of_getElem? (i := 1041) (by decide +kernel), List.mem_of_getElem? (i := 1042) (by decide +kernel)⟩
theorem lw_p30 : lw_okq (⟨"DustySayingsModel", "swaps", "(II)I"⟩, 33) := ⟨⟨by decide +kernel, by decide +kernel⟩, List.mem_of_getElem? (i := 864) (by decide +kernel), List.mem_of_getElem? (i := 1057) (by decide +kernel), List.mem_of_getElem? (i := 1058) (by decide +kernel)⟩
theorem lw_p31 : lw_okq (⟨"DustySayingsModel", "goesOver", "(I)I"⟩, 33) := ⟨⟨by decide +kernel, by decide +kernel⟩, List.mem_of_getElem? (i := 864) (by decide +kernel), List.mem_of_getElem? (i := 1073) (by decide +kernel), List.mem_of_getElem? (i := 1074) (by decide +kernel)⟩
def lw_privs_2 : List (MethodName × Nat) := [(⟨"DustySayings$Tape", "isSignOf", "(Ljava/lang/String;)Z"⟩, 9), (⟨"DustySayings$Tape", "readClosing", "()Z"⟩, 9), (⟨"DustySayingsModel", "comes", "(IIII)I"⟩, 33), (⟨"DustySayingsModel", "put", "(III)V"⟩, 33), (⟨"DustySayingsModel", "isSaying", "(I)Z"⟩, 33), (⟨"DustySayingsModel", "of", "(II)I"⟩, 33), (⟨"DustySayingsModel", "gathers", "(I)I"⟩, 33), (⟨"DustySayingsModel", "plainBloom", "(I)I"⟩, 33), (⟨"DustySayingsModel", "counts", "(I)I"⟩, 33), (⟨"DustySayingsModel", "saidIn", "(I)I"⟩, 33), (⟨"DustySayingsModel", "worksOut", "(I)I"⟩, 33), (⟨"DustySayingsModel", "fellows", "(III)I"⟩, 33), (⟨"DustySayingsModel", "draws", "(I)I"⟩, 33), (⟨"DustySayingsModel", "worthOf", "(I)I"⟩, 33), (⟨"DustySayingsModel", "swaps", "(II)I"⟩, 33), (⟨"DustySayingsModel", "goesOver", "(I)I"⟩, 33)]
theorem lw_r2 : ∀ q ∈ lw_privs_2, lw_okq q := List.forall_mem_cons.mpr ⟨lw_p16, List.forall_mem_cons.mpr ⟨lw_p17, List.forall_mem_cons.mpr ⟨lw_p18, List.forall_mem_cons.mpr ⟨lw_p19, List.forall_mem_cons.mpr ⟨lw_p20, List.forall_mem_cons.mpr ⟨lw_p21, List.forall_mem_cons.mpr ⟨lw_p22, List.forall_mem_cons.mpr ⟨lw_p23, List.forall_mem_cons.mpr ⟨lw_p24, List.forall_mem_cons.mpr ⟨lw_p25, List.forall_mem_cons.mpr ⟨lw_p26, List.forall_mem_cons.mpr ⟨lw_p27, List.forall_mem_cons.mpr ⟨lw_p28, List.forall_mem_cons.mpr ⟨lw_p29, List.forall_mem_cons.mpr ⟨lw_p30, List.forall_mem_cons.mpr ⟨lw_p31, fun _ h => absurd h List.not_mem_nil⟩⟩⟩⟩⟩⟩⟩⟩⟩⟩⟩⟩⟩⟩⟩⟩
theorem lw_p32 : lw_okq (⟨"DustySayingsModel", "worthIn", "(I)I"⟩, 33) := ⟨⟨by decide +kernel, by decide +kernel⟩, List.mem_of_getElem? (i := 864) (by decide +kernel), List.mem_of_getElem? (i := 1085) (by decide +kernel), List.mem_of_getElem? (i := 1086) (by decide +kernel)⟩
theorem lw_p33 : lw_okq (⟨"DustySayingsModel", "buriedOnes", "()I"⟩, 33) := ⟨⟨by decide +kernel, by decide +kernel⟩, List.mem_of_getElem? (i := 864) (by decide +kernel), List.mem_of_getElem? (i := 1089) (by decide +kernel), List.mem_of_getElem? (i := 1090) (by decide +kernel)⟩
theorem lw_p34 : lw_okq (⟨"DustySayingsModel", "drawn", "(I)I"⟩, 33) := ⟨⟨by decide +kernel, by decide +kernel⟩, List.mem_of_getElem? (i := 864) (by decide +kernel), List.mem_of_getElem? (i := 1093) (by decide +kernel), List.mem_of_getElem? (i := 1094) (by decide +kernel)⟩
theorem lw_p35 : lw_okq (⟨"DustySayingsModel", "draw", "()I"⟩, 33) := ⟨⟨by decide +kernel, by decide +kernel⟩, List.mem_of_getElem? (i := 864) (by decide +kernel), List.mem_of_getElem? (i := 1105) (by decide +kernel), List.mem_of_getElem? (i := 1106) (by decide +kernel)⟩
theorem lw_p36 : lw_okq (⟨"DustySayingsModel", "goesOn", "(I)V"⟩, 33) := ⟨⟨by decide +kernel, by decide +kernel⟩, List.mem_of_getElem? (i := 864) (by decide +kernel), List.mem_of_getElem? (i := 1118) (by decide +kernel), List.mem_of_getElem? (i := 1119) (by decide +kernel)⟩
theorem lw_p37 : lw_okq (⟨"DustySayingsModel", "evening", "()V"⟩, 33) := ⟨⟨by decide +kernel, by decide +kernel⟩, List.mem_of_getElem? (i := 864) (by decide +kernel), List.mem_of_getElem? (i := 1122) (by decide +kernel), List.mem_of_getElem? (i := 1123) (by decide +kernel)⟩
theorem lw_p38 : lw_okq (⟨"DustySayingsModel", "maid", "()I"⟩, 33) := ⟨⟨by decide +kernel, by decide +kernel⟩, List.mem_of_getElem? (i := 864) (by decide +kernel), List.mem_of_getElem? (i := 1126) (by decide +kernel), List.mem_of_getElem? (i := 1127) (by decide +kernel)⟩
theorem lw_p39 : lw_okq (⟨"DustySayingsModel", "dustiest", "(I)I"⟩, 33) := ⟨⟨by decide +kernel, by decide +kernel⟩, List.mem_of_getElem? (i := 864) (by decide +kernel), List.mem_of_getElem? (i := 1130) (by decide +kernel), List.mem_of_getElem? (i := 1131) (by decide +kernel)⟩
theorem lw_p40 : lw_okq (⟨"DustySayingsModel", "allDust", "()I"⟩, 33) := ⟨⟨by decide +kernel, by decide +kernel⟩, List.mem_of_getElem? (i := 864) (by decide +kernel), List.mem_of_getElem? (i := 1138) (by decide +kernel), List.mem_of_getElem? (i := 1139) (by decide +kernel)⟩
theorem lw_p41 : lw_okq (⟨"DustySayingsModel", "peopled", "()I"⟩, 33) := ⟨⟨by decide +kernel, by decide +kernel⟩, List.mem_of_getElem? (i := 864) (by decide +kernel), List.mem_of_getElem? (i := 1142) (by decide +kernel), List.mem_of_getElem? (i := 1143) (by decide +kernel)⟩
theorem lw_p42 : lw_okq (⟨"DustySayingsModel", "deafest", "()I"⟩, 33) := ⟨⟨by decide +kernel, by decide +kernel⟩, List.mem_of_getElem? (i := 864) (by decide +kernel), List.mem_of_getElem? (i := 1146) (by decide +kernel), List.mem_of_getElem? (i := 1147) (by decide +kernel)⟩
theorem lw_p43 : lw_okq (⟨"DustySayingsModel", "thinks", "()V"⟩, 33) := ⟨⟨by decide +kernel, by decide +kernel⟩, List.mem_of_getElem? (i := 864) (by decide +kernel), List.mem_of_getElem? (i := 1154) (by decide +kernel), List.mem_of_getElem? (i := 1155) (by decide +kernel)⟩
theorem lw_p44 : lw_okq (⟨"DustySayingsModel", "putsBack", "()V"⟩, 33) := ⟨⟨by decide +kernel, by decide +kernel⟩, List.mem_of_getElem? (i := 864) (by decide +kernel), List.mem_of_getElem? (i := 1161) (by decide +kernel), List.mem_of_getElem? (i := 1162) (by decide +kernel)⟩
theorem lw_p45 : lw_okq (⟨"DustySayingsModel", "isBright", "(II)Z"⟩, 33) := ⟨⟨by decide +kernel, by decide +kernel⟩, List.mem_of_getElem? (i := 864) (by decide +kernel), List.mem_of_getElem? (i := 1178) (by decide +kernel), List.mem_of_getElem? (i := 1179) (by decide +kernel)⟩
theorem lw_p46 : lw_okq (⟨"DustySayingsModel", "dustOn", "(II)I"⟩, 33) := ⟨⟨by decide +kernel, by decide +kernel⟩, List.mem_of_getElem? (i := 864) (by decide +kernel), List.mem_of_getElem? (i := 1186) (by decide +kernel), List.mem_of_getElem? (i := 1187) (by decide +kernel)⟩
theorem lw_p47 : lw_okq (⟨"DustySayingsModel", "allHeed", "()I"⟩, 33) := ⟨⟨by decide +kernel, by decide +kernel⟩, List.mem_of_getElem? (i := 864) (by decide +kernel), List.mem_of_getElem? (i := 1198) (by decide +kernel), List.mem_of_getElem? (i := 1199) (by decide +kernel)⟩
def lw_privs_3 : List (MethodName × Nat) := [(⟨"DustySayingsModel", "worthIn", "(I)I"⟩, 33), (⟨"DustySayingsModel", "buriedOnes", "()I"⟩, 33), (⟨"DustySayingsModel", "drawn", "(I)I"⟩, 33), (⟨"DustySayingsModel", "draw", "()I"⟩, 33), (⟨"DustySayingsModel", "goesOn", "(I)V"⟩, 33), (⟨"DustySayingsModel", "evening", "()V"⟩, 33), (⟨"DustySayingsModel", "maid", "()I"⟩, 33), (⟨"DustySayingsModel", "dustiest", "(I)I"⟩, 33), (⟨"DustySayingsModel", "allDust", "()I"⟩, 33), (⟨"DustySayingsModel", "peopled", "()I"⟩, 33), (⟨"DustySayingsModel", "deafest", "()I"⟩, 33), (⟨"DustySayingsModel", "thinks", "()V"⟩, 33), (⟨"DustySayingsModel", "putsBack", "()V"⟩, 33), (⟨"DustySayingsModel", "isBright", "(II)Z"⟩, 33), (⟨"DustySayingsModel", "dustOn", "(II)I"⟩, 33), (⟨"DustySayingsModel", "allHeed", "()I"⟩, 33)]
theorem lw_r3 : ∀ q ∈ lw_privs_3, lw_okq q := List.forall_mem_cons.mpr ⟨lw_p32, List.forall_mem_cons.mpr ⟨lw_p33, List.forall_mem_cons.mpr ⟨lw_p34, List.forall_mem_cons.mpr ⟨lw_p35, List.forall_mem_cons.mpr ⟨lw_p36, List.forall_mem_cons.mpr ⟨lw_p37, List.forall_mem_cons.mpr ⟨lw_p38, List.forall_mem_cons.mpr ⟨lw_p39, List.forall_mem_cons.mpr ⟨lw_p40, List.forall_mem_cons.mpr ⟨lw_p41, List.forall_mem_cons.mpr ⟨lw_p42, List.forall_mem_cons.mpr ⟨lw_p43, List.forall_mem_cons.mpr ⟨lw_p44, List.forall_mem_cons.mpr ⟨lw_p45, List.forall_mem_cons.mpr ⟨lw_p46, List.forall_mem_cons.mpr ⟨lw_p47, fun _ h => absurd h List.not_mem_nil⟩⟩⟩⟩⟩⟩⟩⟩⟩⟩⟩⟩⟩⟩⟩⟩
theorem lw_p48 : lw_okq (⟨"DustySayingsModel", "go", "()V"⟩, 33) := ⟨⟨by decide +kernel, by decide +kernel⟩, List.mem_of_getElem? (i := 864) (by decide +kernel), List.mem_of_getElem? (i := 1233) (by decide +kernel), List.mem_of_getElem? (i := 1234) (by decide +kernel)⟩
theorem lw_p49 : lw_okq (⟨"DustySayingsModel", "isLetter", "(I)Z"⟩, 33) := ⟨⟨by decide +kernel, by decide +kernel⟩, List.mem_of_getElem? (i := 864) (by decide +kernel), List.mem_of_getElem? (i := 1237) (by decide +kernel), List.mem_of_getElem? (i := 1238) (by decide +kernel)⟩
theorem lw_p50 : lw_okq (⟨"DustySayingsModel", "isFigure", "(I)Z"⟩, 33) := ⟨⟨by decide +kernel, by decide +kernel⟩, List.mem_of_getElem? (i := 864) (by decide +kernel), List.mem_of_getElem? (i := 1241) (by decide +kernel), List.mem_of_getElem? (i := 1242) (by decide +kernel)⟩
theorem lw_p51 : lw_okq (⟨"DustySayingsModel", "takesKey", "()Z"⟩, 33) := ⟨⟨by decide +kernel, by decide +kernel⟩, List.mem_of_getElem? (i := 864) (by decide +kernel), List.mem_of_getElem? (i := 1245) (by decide +kernel), List.mem_of_getElem? (i := 1246) (by decide +kernel)⟩
theorem lw_p52 : lw_okq (⟨"DustySayingsModel", "takesE", "()Z"⟩, 33) := ⟨⟨by decide +kernel, by decide +kernel⟩, List.mem_of_getElem? (i := 864) (by decide +kernel), List.mem_of_getElem? (i := 1249) (by decide +kernel), List.mem_of_getElem? (i := 1250) (by decide +kernel)⟩
theorem lw_p53 : lw_okq (⟨"DustySayingsModel", "takesPart", "()Z"⟩, 33) := ⟨⟨by decide +kernel, by decide +kernel⟩, List.mem_of_getElem? (i := 864) (by decide +kernel), List.mem_of_getElem? (i := 1253) (by decide +kernel), List.mem_of_getElem? (i := 1254) (by decide +kernel)⟩
theorem lw_p54 : lw_okq (⟨"DustySayingsModel", "nameOf", "(I)I"⟩, 33) := ⟨⟨by decide +kernel, by decide +kernel⟩, List.mem_of_getElem? (i := 864) (by decide +kernel), List.mem_of_getElem? (i := 1257) (by decide +kernel), List.mem_of_getElem? (i := 1258) (by decide +kernel)⟩
theorem lw_p55 : lw_okq (⟨"DustySayingsModel", "settle", "(I)V"⟩, 33) := ⟨⟨by decide +kernel, by decide +kernel⟩, List.mem_of_getElem? (i := 864) (by decide +kernel), List.mem_of_getElem? (i := 1261) (by decide +kernel), List.mem_of_getElem? (i := 1262) (by decide +kernel)⟩
theorem lw_p56 : lw_okq (⟨"DustySayingsModel", "notsOpen", "()I"⟩, 33) := ⟨⟨by decide +kernel, by decide +kernel⟩, List.mem_of_getElem? (i := 864) (by decide +kernel), List.mem_of_getElem? (i := 1268) (by decide +kernel), List.mem_of_getElem? (i := 1269) (by decide +kernel)⟩
theorem lw_p57 : lw_okq (⟨"DustySayingsModel", "signHere", "()I"⟩, 33) := ⟨⟨by decide +kernel, by decide +kernel⟩, List.mem_of_getElem? (i := 864) (by decide +kernel), List.mem_of_getElem? (i := 1272) (by decide +kernel), List.mem_of_getElem? (i := 1273) (by decide +kernel)⟩
def lw_privs_4 : List (MethodName × Nat) := [(⟨"DustySayingsModel", "go", "()V"⟩, 33), (⟨"DustySayingsModel", "isLetter", "(I)Z"⟩, 33), (⟨"DustySayingsModel", "isFigure", "(I)Z"⟩, 33), (⟨"DustySayingsModel", "takesKey", "()Z"⟩, 33), (⟨"DustySayingsModel", "takesE", "()Z"⟩, 33), (⟨"DustySayingsModel", "takesPart", "()Z"⟩, 33), (⟨"DustySayingsModel", "nameOf", "(I)I"⟩, 33), (⟨"DustySayingsModel", "settle", "(I)V"⟩, 33), (⟨"DustySayingsModel", "notsOpen", "()I"⟩, 33), (⟨"DustySayingsModel", "signHere", "()I"⟩, 33)]
theorem lw_r4 : ∀ q ∈ lw_privs_4, lw_okq q := List.forall_mem_cons.mpr ⟨lw_p48, List.forall_mem_cons.mpr ⟨lw_p49, List.forall_mem_cons.mpr ⟨lw_p50, List.forall_mem_cons.mpr ⟨lw_p51, List.forall_mem_cons.mpr ⟨lw_p52, List.forall_mem_cons.mpr ⟨lw_p53, List.forall_mem_cons.mpr ⟨lw_p54, List.forall_mem_cons.mpr ⟨lw_p55, List.forall_mem_cons.mpr ⟨lw_p56, List.forall_mem_cons.mpr ⟨lw_p57, fun _ h => absurd h List.not_mem_nil⟩⟩⟩⟩⟩⟩⟩⟩⟩⟩
def lw_privs : List (MethodName × Nat) := lw_privs_1 ++ (lw_privs_2 ++ (lw_privs_3 ++ (lw_privs_4)))
def lw_tbl : List Cond := k2_sels lw_privs ++ tables_1
theorem lw_privs_ok : ∀ q ∈ lw_privs, lw_okq q := by
  show ∀ q ∈ lw_privs_1 ++ (lw_privs_2 ++ (lw_privs_3 ++ (lw_privs_4))), lw_okq q
  exact List.forall_mem_append.mpr ⟨lw_r1, List.forall_mem_append.mpr ⟨lw_r2, List.forall_mem_append.mpr ⟨lw_r3, lw_r4⟩⟩⟩
end
section
/-! ===== BEGIN words of one list among another's, by their places ===== -/
theorem goodIn_r {big : List Cond} (ws : List Cond) (ps : List Nat) (hp : ws = ps.filterMap (fun i => big[i]?)) (h : ws.all goodWord = true) : GoodIn big ws := by
  intro w hw
  have h1 := List.all_eq_true.mp h w hw
  rw [hp] at hw
  obtain ⟨i, -, hi⟩ := List.mem_filterMap.mp hw
  have hm : w ∈ big := by first | exact List.mem_of_getElem? hi | exact List.getElem?_mem hi
  exact ⟨hm, good_of_word h1⟩
theorem goodIn_app {big a b : List Cond} (ha : GoodIn big a) (hb : GoodIn big b) : GoodIn big (a ++ b) := fun w h => (List.mem_append.mp h).elim (ha w) (hb w)
theorem goodIn_ca {big a b : List Cond} {c : Cond} (ha : GoodIn big (c :: a)) (hb : GoodIn big b) : GoodIn big (c :: (a ++ b)) := fun w h => (List.mem_cons.mp h).elim (fun e => ha w (List.mem_cons.mpr (Or.inl e))) (fun h => (List.mem_append.mp h).elim (fun h => ha w (List.mem_cons.mpr (Or.inr h))) (hb w))
theorem goodIn_sub {big ws : List Cond} (hm : ∀ w ∈ ws, w ∈ big) (h : ws.all goodWord = true) : GoodIn big ws := fun w hw => ⟨hm w hw, good_of_word (List.all_eq_true.mp h w hw)⟩
/-! ===== END ===== -/

def RX0 : String := "DustySayings$Kinds"
def TX0 : u_T := fun k => match k with
  | _ => ("", "", "", false)
def tyX0 : Nat → FieldType := fun k => match k with
  | _ => .int
theorem nmX0 : ∀ a, a < 0 → ∀ b, b < 0 → a ≠ b → (TX0 a).2.1 ≠ (TX0 b).2.1 := by decide +kernel
theorem tyX0_ok : ∀ k, k < 0 → parseFieldDescriptor (TX0 k).2.2.1 = some (tyX0 k) := by decide +kernel
abbrev cX0_isKind : ByteArray := prog_2_method_2_code
def yX0_isKind : MethodName := ⟨RX0, "isKind", "(I)Z"⟩
abbrev cX0_isUnder : ByteArray := prog_2_method_3_code
def yX0_isUnder : MethodName := ⟨RX0, "isUnder", "(II)Z"⟩
abbrev cX0_worth : ByteArray := prog_2_method_4_code
def yX0_worth : MethodName := ⟨RX0, "worth", "(III)I"⟩
def RX1 : String := "DustySayings$Laws"
def TX1 : u_T := fun k => match k with
  | 0 => ("DustySayings$Laws", "keys", "[I", true)
  | 1 => ("DustySayings$Laws", "leaves", "[I", true)
  | 2 => ("DustySayings$Laws", "lengths", "[I", true)
  | 3 => ("DustySayings$Laws", "steps", "[[I", true)
  | 4 => ("DustySayings$Laws", "names", "[I", true)
  | _ => ("DustySayings$Laws", "stack", "[I", true)
def tyX1 : Nat → FieldType := fun k => match k with
  | 0 => .array .int
  | 1 => .array .int
  | 2 => .array .int
  | 3 => .array (.array .int)
  | 4 => .array .int
  | _ => .array .int
theorem nmX1 : ∀ a, a < 6 → ∀ b, b < 6 → a ≠ b → (TX1 a).2.1 ≠ (TX1 b).2.1 := by decide +kernel
theorem tyX1_ok : ∀ k, k < 6 → parseFieldDescriptor (TX1 k).2.2.1 = some (tyX1 k) := by decide +kernel
abbrev cX1_init : ByteArray := prog_3_method_1_code
def yX1_init : MethodName := ⟨RX1, "<init>", "()V"⟩
abbrev cX1_namesOf : ByteArray := prog_3_method_2_code
def yX1_namesOf : MethodName := ⟨RX1, "namesOf", "(I)Ljava/lang/String;"⟩
abbrev cX1_wordOf : ByteArray := prog_3_method_3_code
def yX1_wordOf : MethodName := ⟨RX1, "wordOf", "(I)Ljava/lang/String;"⟩
abbrev cX1_write : ByteArray := prog_3_method_4_code
def yX1_write : MethodName := ⟨RX1, "write", "(ILDustySayings$Tape;)V"⟩
abbrev cX1_name : ByteArray := prog_3_method_5_code
def yX1_name : MethodName := ⟨RX1, "name", "(IIII)V"⟩
abbrev cX1_value : ByteArray := prog_3_method_6_code
def yX1_value : MethodName := ⟨RX1, "value", "(I)I"⟩
abbrev cX1_leaf : ByteArray := prog_3_method_7_code
def yX1_leaf : MethodName := ⟨RX1, "leaf", "(I)I"⟩
abbrev cX1_join : ByteArray := prog_3_method_8_code
def yX1_join : MethodName := ⟨RX1, "join", "(III)I"⟩
abbrev cX1_truth : ByteArray := prog_3_method_9_code
def yX1_truth : MethodName := ⟨RX1, "truth", "(Z)I"⟩
def RX2 : String := "DustySayings$Room"
def TX2 : u_T := fun k => match k with
  | 0 => ("DustySayings$Room", "laws", "LDustySayings$Laws;", true)
  | 1 => ("DustySayings$Room", "kind", "[I", true)
  | 2 => ("DustySayings$Room", "wit", "[I", true)
  | 3 => ("DustySayings$Room", "dust", "[I", true)
  | 4 => ("DustySayings$Room", "corner", "[I", true)
  | 5 => ("DustySayings$Room", "turned", "[I", true)
  | 6 => ("DustySayings$Room", "heeds", "[I", true)
  | 7 => ("DustySayings$Room", "counting", "[I", true)
  | 8 => ("DustySayings$Room", "size", "I", false)
  | 9 => ("DustySayings$Room", "texts", "I", false)
  | 10 => ("DustySayings$Room", "kicking", "I", false)
  | 11 => ("DustySayings$Room", "dusted", "I", false)
  | 12 => ("DustySayings$Room", "found", "I", false)
  | 13 => ("DustySayings$Room", "evening", "I", false)
  | _ => ("DustySayings$Room", "z", "I", false)
def tyX2 : Nat → FieldType := fun k => match k with
  | 0 => .object "DustySayings$Laws"
  | 1 => .array .int
  | 2 => .array .int
  | 3 => .array .int
  | 4 => .array .int
  | 5 => .array .int
  | 6 => .array .int
  | 7 => .array .int
  | 8 => .int
  | 9 => .int
  | 10 => .int
  | 11 => .int
  | 12 => .int
  | 13 => .int
  | _ => .int
theorem nmX2 : ∀ a, a < 15 → ∀ b, b < 15 → a ≠ b → (TX2 a).2.1 ≠ (TX2 b).2.1 := by decide +kernel
theorem tyX2_ok : ∀ k, k < 15 → parseFieldDescriptor (TX2 k).2.2.1 = some (tyX2 k) := by decide +kernel
abbrev cX2_init : ByteArray := prog_4_method_1_code
def yX2_init : MethodName := ⟨RX2, "<init>", "(LDustySayings$Laws;)V"⟩
abbrev cX2_isCorner : ByteArray := prog_4_method_2_code
def yX2_isCorner : MethodName := ⟨RX2, "isCorner", "(I)Z"⟩
abbrev cX2_held : ByteArray := prog_4_method_3_code
def yX2_held : MethodName := ⟨RX2, "held", "(I)I"⟩
abbrev cX2_become : ByteArray := prog_4_method_4_code
def yX2_become : MethodName := ⟨RX2, "become", "(LDustySayings$Room;)V"⟩
abbrev cX2_has : ByteArray := prog_4_method_5_code
def yX2_has : MethodName := ⟨RX2, "has", "(I)Z"⟩
abbrev cX2_isFull : ByteArray := prog_4_method_6_code
def yX2_isFull : MethodName := ⟨RX2, "isFull", "()Z"⟩
abbrev cX2_isBuried : ByteArray := prog_4_method_7_code
def yX2_isBuried : MethodName := ⟨RX2, "isBuried", "(I)Z"⟩
abbrev cX2_add : ByteArray := prog_4_method_8_code
def yX2_add : MethodName := ⟨RX2, "add", "(IIII)I"⟩
abbrev cX2_addByLot : ByteArray := prog_4_method_9_code
def yX2_addByLot : MethodName := ⟨RX2, "addByLot", "()V"⟩
abbrev cX2_draw : ByteArray := prog_4_method_10_code
def yX2_draw : MethodName := ⟨RX2, "draw", "()I"⟩
abbrev cX2_goOver : ByteArray := prog_4_method_11_code
def yX2_goOver : MethodName := ⟨RX2, "goOver", "(I)V"⟩
abbrev cX2_brighten : ByteArray := prog_4_method_12_code
def yX2_brighten : MethodName := ⟨RX2, "brighten", "(I)V"⟩
abbrev cX2_passEvenings : ByteArray := prog_4_method_13_code
def yX2_passEvenings : MethodName := ⟨RX2, "passEvenings", "(I)V"⟩
abbrev cX2_passEvening : ByteArray := prog_4_method_14_code
def yX2_passEvening : MethodName := ⟨RX2, "passEvening", "()V"⟩
abbrev cX2_dustiestIn : ByteArray := prog_4_method_15_code
def yX2_dustiestIn : MethodName := ⟨RX2, "dustiestIn", "(I)I"⟩
abbrev cX2_kickByChance : ByteArray := prog_4_method_16_code
def yX2_kickByChance : MethodName := ⟨RX2, "kickByChance", "()V"⟩
abbrev cX2_gathers : ByteArray := prog_4_method_17_code
def yX2_gathers : MethodName := ⟨RX2, "gathers", "(I)I"⟩
abbrev cX2_quipGathers : ByteArray := prog_4_method_18_code
def yX2_quipGathers : MethodName := ⟨RX2, "quipGathers", "(I)I"⟩
abbrev cX2_plainBloom : ByteArray := prog_4_method_19_code
def yX2_plainBloom : MethodName := ⟨RX2, "plainBloom", "(I)I"⟩
abbrev cX2_othersBeside : ByteArray := prog_4_method_20_code
def yX2_othersBeside : MethodName := ⟨RX2, "othersBeside", "(II)I"⟩
abbrev cX2_draws : ByteArray := prog_4_method_21_code
def yX2_draws : MethodName := ⟨RX2, "draws", "(I)I"⟩
abbrev cX2_worth : ByteArray := prog_4_method_22_code
def yX2_worth : MethodName := ⟨RX2, "worth", "(I)I"⟩
abbrev cX2_sayingsIn : ByteArray := prog_4_method_23_code
def yX2_sayingsIn : MethodName := ⟨RX2, "sayingsIn", "(I)I"⟩
abbrev cX2_worthIn : ByteArray := prog_4_method_24_code
def yX2_worthIn : MethodName := ⟨RX2, "worthIn", "(I)I"⟩
abbrev cX2_drawnIn : ByteArray := prog_4_method_25_code
def yX2_drawnIn : MethodName := ⟨RX2, "drawnIn", "(I)I"⟩
abbrev cX2_buried : ByteArray := prog_4_method_26_code
def yX2_buried : MethodName := ⟨RX2, "buried", "()I"⟩
abbrev cX2_cornersWithSayings : ByteArray := prog_4_method_27_code
def yX2_cornersWithSayings : MethodName := ⟨RX2, "cornersWithSayings", "()I"⟩
abbrev cX2_deafest : ByteArray := prog_4_method_28_code
def yX2_deafest : MethodName := ⟨RX2, "deafest", "()I"⟩
abbrev cX2_allDust : ByteArray := prog_4_method_29_code
def yX2_allDust : MethodName := ⟨RX2, "allDust", "()I"⟩
abbrev cX2_allHeed : ByteArray := prog_4_method_30_code
def yX2_allHeed : MethodName := ⟨RX2, "allHeed", "()I"⟩
abbrev cX2_feeGiven : ByteArray := prog_4_method_31_code
def yX2_feeGiven : MethodName := ⟨RX2, "feeGiven", "()I"⟩
abbrev cX2_fineGiven : ByteArray := prog_4_method_32_code
def yX2_fineGiven : MethodName := ⟨RX2, "fineGiven", "(I)I"⟩
def RX3 : String := "DustySayings$Sheet"
def TX3 : u_T := fun k => match k with
  | 0 => ("DustySayings$Sheet", "places", "[I", true)
  | 1 => ("DustySayings$Sheet", "sort", "I", false)
  | _ => ("DustySayings$Sheet", "size", "I", false)
def tyX3 : Nat → FieldType := fun k => match k with
  | 0 => .array .int
  | 1 => .int
  | _ => .int
theorem nmX3 : ∀ a, a < 3 → ∀ b, b < 3 → a ≠ b → (TX3 a).2.1 ≠ (TX3 b).2.1 := by decide +kernel
theorem tyX3_ok : ∀ k, k < 3 → parseFieldDescriptor (TX3 k).2.2.1 = some (tyX3 k) := by decide +kernel
abbrev cX3_init : ByteArray := prog_5_method_1_code
def yX3_init : MethodName := ⟨RX3, "<init>", "()V"⟩
abbrev cX3_begin : ByteArray := prog_5_method_2_code
def yX3_begin : MethodName := ⟨RX3, "begin", "(II)V"⟩
abbrev cX3_become : ByteArray := prog_5_method_3_code
def yX3_become : MethodName := ⟨RX3, "become", "(LDustySayings$Sheet;)V"⟩
abbrev cX3_isMissing : ByteArray := prog_5_method_4_code
def yX3_isMissing : MethodName := ⟨RX3, "isMissing", "()Z"⟩
abbrev cX3_has : ByteArray := prog_5_method_5_code
def yX3_has : MethodName := ⟨RX3, "has", "(I)Z"⟩
abbrev cX3_hasRun : ByteArray := prog_5_method_6_code
def yX3_hasRun : MethodName := ⟨RX3, "hasRun", "(II)Z"⟩
abbrev cX3_isNumber : ByteArray := prog_5_method_7_code
def yX3_isNumber : MethodName := ⟨RX3, "isNumber", "(I)Z"⟩
def RX4 : String := "DustySayings$Slot"
def TX4 : u_T := fun k => match k with
  | 0 => ("DustySayings$Slot", "row", "LDustySayings$Sheet;", true)
  | 1 => ("DustySayings$Slot", "thing", "I", false)
  | 2 => ("DustySayings$Slot", "number", "I", false)
  | 3 => ("DustySayings$Slot", "kind", "I", false)
  | 4 => ("DustySayings$Slot", "wit", "I", false)
  | _ => ("DustySayings$Slot", "dust", "I", false)
def tyX4 : Nat → FieldType := fun k => match k with
  | 0 => .object "DustySayings$Sheet"
  | 1 => .int
  | 2 => .int
  | 3 => .int
  | 4 => .int
  | _ => .int
theorem nmX4 : ∀ a, a < 6 → ∀ b, b < 6 → a ≠ b → (TX4 a).2.1 ≠ (TX4 b).2.1 := by decide +kernel
theorem tyX4_ok : ∀ k, k < 6 → parseFieldDescriptor (TX4 k).2.2.1 = some (tyX4 k) := by decide +kernel
abbrev cX4_init : ByteArray := prog_6_method_1_code
def yX4_init : MethodName := ⟨RX4, "<init>", "()V"⟩
abbrev cX4_holdSaying : ByteArray := prog_6_method_2_code
def yX4_holdSaying : MethodName := ⟨RX4, "holdSaying", "(III)V"⟩
def RX5 : String := "DustySayings$Tape"
def TX5 : u_T := fun k => match k with
  | 0 => ("DustySayings$Tape", "bytes", "[I", true)
  | 1 => ("DustySayings$Tape", "size", "I", false)
  | 2 => ("DustySayings$Tape", "start", "I", false)
  | 3 => ("DustySayings$Tape", "stop", "I", false)
  | 4 => ("DustySayings$Tape", "sort", "I", false)
  | 5 => ("DustySayings$Tape", "key", "I", false)
  | 6 => ("DustySayings$Tape", "leaves", "I", false)
  | 7 => ("DustySayings$Tape", "written", "I", false)
  | _ => ("DustySayings$Tape", "steps", "[I", true)
def tyX5 : Nat → FieldType := fun k => match k with
  | 0 => .array .int
  | 1 => .int
  | 2 => .int
  | 3 => .int
  | 4 => .int
  | 5 => .int
  | 6 => .int
  | 7 => .int
  | _ => .array .int
theorem nmX5 : ∀ a, a < 9 → ∀ b, b < 9 → a ≠ b → (TX5 a).2.1 ≠ (TX5 b).2.1 := by decide +kernel
theorem tyX5_ok : ∀ k, k < 9 → parseFieldDescriptor (TX5 k).2.2.1 = some (tyX5 k) := by decide +kernel
abbrev cX5_init : ByteArray := prog_7_method_1_code
def yX5_init : MethodName := ⟨RX5, "<init>", "()V"⟩
abbrev cX5_hasRoom : ByteArray := prog_7_method_2_code
def yX5_hasRoom : MethodName := ⟨RX5, "hasRoom", "(I)Z"⟩
abbrev cX5_add : ByteArray := prog_7_method_3_code
def yX5_add : MethodName := ⟨RX5, "add", "(I)V"⟩
abbrev cX5_isText : ByteArray := prog_7_method_4_code
def yX5_isText : MethodName := ⟨RX5, "isText", "()Z"⟩
abbrev cX5_pass : ByteArray := prog_7_method_5_code
def yX5_pass : MethodName := ⟨RX5, "pass", "()V"⟩
abbrev cX5_sortAt : ByteArray := prog_7_method_6_code
def yX5_sortAt : MethodName := ⟨RX5, "sortAt", "(I)I"⟩
abbrev cX5_isSignOf : ByteArray := prog_7_method_7_code
def yX5_isSignOf : MethodName := ⟨RX5, "isSignOf", "(Ljava/lang/String;)Z"⟩
abbrev cX5_readKey : ByteArray := prog_7_method_8_code
def yX5_readKey : MethodName := ⟨RX5, "readKey", "()Z"⟩
abbrev cX5_isWord : ByteArray := prog_7_method_9_code
def yX5_isWord : MethodName := ⟨RX5, "isWord", "(Ljava/lang/String;)Z"⟩
abbrev cX5_signsOf : ByteArray := prog_7_method_10_code
def yX5_signsOf : MethodName := ⟨RX5, "signsOf", "(I)Ljava/lang/String;"⟩
abbrev cX5_readJoined : ByteArray := prog_7_method_11_code
def yX5_readJoined : MethodName := ⟨RX5, "readJoined", "(III)Z"⟩
abbrev cX5_readPiece : ByteArray := prog_7_method_12_code
def yX5_readPiece : MethodName := ⟨RX5, "readPiece", "(II)Z"⟩
abbrev cX5_readClosing : ByteArray := prog_7_method_13_code
def yX5_readClosing : MethodName := ⟨RX5, "readClosing", "()Z"⟩
abbrev cX5_readNumber : ByteArray := prog_7_method_14_code
def yX5_readNumber : MethodName := ⟨RX5, "readNumber", "()Z"⟩
abbrev cX5_readName : ByteArray := prog_7_method_15_code
def yX5_readName : MethodName := ⟨RX5, "readName", "()Z"⟩
abbrev cX5_writeLeaf : ByteArray := prog_7_method_16_code
def yX5_writeLeaf : MethodName := ⟨RX5, "writeLeaf", "(I)V"⟩
abbrev cX5_write : ByteArray := prog_7_method_17_code
def yX5_write : MethodName := ⟨RX5, "write", "(I)V"⟩
def RX6 : String := "DustySayings"
def TX6 : u_T := fun k => match k with
  | 0 => ("DustySayings", "laws", "LDustySayings$Laws;", true)
  | 1 => ("DustySayings", "now", "LDustySayings$Room;", true)
  | 2 => ("DustySayings", "image", "LDustySayings$Room;", true)
  | 3 => ("DustySayings", "thought", "LDustySayings$Room;", true)
  | 4 => ("DustySayings", "tape", "LDustySayings$Tape;", true)
  | 5 => ("DustySayings", "sheets", "[LDustySayings$Sheet;", true)
  | 6 => ("DustySayings", "slots", "[LDustySayings$Slot;", true)
  | 7 => ("DustySayings", "waiting", "[I", true)
  | 8 => ("DustySayings", "differences", "[I", true)
  | 9 => ("DustySayings", "hasImage", "Z", false)
  | _ => ("DustySayings", "waits", "I", false)
def tyX6 : Nat → FieldType := fun k => match k with
  | 0 => .object "DustySayings$Laws"
  | 1 => .object "DustySayings$Room"
  | 2 => .object "DustySayings$Room"
  | 3 => .object "DustySayings$Room"
  | 4 => .object "DustySayings$Tape"
  | 5 => .array (.object "DustySayings$Sheet")
  | 6 => .array (.object "DustySayings$Slot")
  | 7 => .array .int
  | 8 => .array .int
  | 9 => .boolean
  | _ => .int
theorem nmX6 : ∀ a, a < 11 → ∀ b, b < 11 → a ≠ b → (TX6 a).2.1 ≠ (TX6 b).2.1 := by decide +kernel
theorem tyX6_ok : ∀ k, k < 11 → parseFieldDescriptor (TX6 k).2.2.1 = some (tyX6 k) := by decide +kernel
abbrev cX6_init : ByteArray := prog_1_method_1_code
def yX6_init : MethodName := ⟨RX6, "<init>", "()V"⟩
abbrev cX6_saying : ByteArray := prog_1_method_2_code
def yX6_saying : MethodName := ⟨RX6, "saying", "(III)I"⟩
abbrev cX6_told : ByteArray := prog_1_method_3_code
def yX6_told : MethodName := ⟨RX6, "told", "(II)I"⟩
abbrev cX6_as : ByteArray := prog_1_method_4_code
def yX6_as : MethodName := ⟨RX6, "as", "(II)I"⟩
abbrev cX6_turns : ByteArray := prog_1_method_5_code
def yX6_turns : MethodName := ⟨RX6, "turns", "(II)I"⟩
abbrev cX6_set : ByteArray := prog_1_method_6_code
def yX6_set : MethodName := ⟨RX6, "set", "(III)I"⟩
abbrev cX6_moves : ByteArray := prog_1_method_7_code
def yX6_moves : MethodName := ⟨RX6, "moves", "(II)I"⟩
abbrev cX6_dusts : ByteArray := prog_1_method_8_code
def yX6_dusts : MethodName := ⟨RX6, "dusts", "(I)I"⟩
abbrev cX6_heed : ByteArray := prog_1_method_9_code
def yX6_heed : MethodName := ⟨RX6, "heed", "(II)I"⟩
abbrev cX6_cornerOf : ByteArray := prog_1_method_10_code
def yX6_cornerOf : MethodName := ⟨RX6, "cornerOf", "(II)I"⟩
abbrev cX6_kicks : ByteArray := prog_1_method_11_code
def yX6_kicks : MethodName := ⟨RX6, "kicks", "(I)I"⟩
abbrev cX6_deal : ByteArray := prog_1_method_12_code
def yX6_deal : MethodName := ⟨RX6, "deal", "(I)I"⟩
abbrev cX6_seed : ByteArray := prog_1_method_13_code
def yX6_seed : MethodName := ⟨RX6, "seed", "(I)I"⟩
abbrev cX6_evenings : ByteArray := prog_1_method_14_code
def yX6_evenings : MethodName := ⟨RX6, "evenings", "(I)I"⟩
abbrev cX6_room : ByteArray := prog_1_method_15_code
def yX6_room : MethodName := ⟨RX6, "room", "(I)I"⟩
abbrev cX6_behind : ByteArray := prog_1_method_16_code
def yX6_behind : MethodName := ⟨RX6, "behind", "(II)I"⟩
abbrev cX6_sinks : ByteArray := prog_1_method_17_code
def yX6_sinks : MethodName := ⟨RX6, "sinks", "(I)I"⟩
abbrev cX6_hears : ByteArray := prog_1_method_18_code
def yX6_hears : MethodName := ⟨RX6, "hears", "(II)I"⟩
abbrev cX6_shine : ByteArray := prog_1_method_19_code
def yX6_shine : MethodName := ⟨RX6, "shine", "(I)I"⟩
abbrev cX6_isEnoughShine : ByteArray := prog_1_method_20_code
def yX6_isEnoughShine : MethodName := ⟨RX6, "isEnoughShine", "(II)Z"⟩
abbrev cX6_edge : ByteArray := prog_1_method_21_code
def yX6_edge : MethodName := ⟨RX6, "edge", "(III)I"⟩
abbrev cX6_place : ByteArray := prog_1_method_22_code
def yX6_place : MethodName := ⟨RX6, "place", "(III)I"⟩
abbrev cX6_becomes : ByteArray := prog_1_method_23_code
def yX6_becomes : MethodName := ⟨RX6, "becomes", "(III)I"⟩
abbrev cX6_like : ByteArray := prog_1_method_24_code
def yX6_like : MethodName := ⟨RX6, "like", "(II)I"⟩
abbrev cX6_gatherDifferences : ByteArray := prog_1_method_25_code
def yX6_gatherDifferences : MethodName := ⟨RX6, "gatherDifferences", "(LDustySayings$Sheet;)V"⟩
abbrev cX6_fee : ByteArray := prog_1_method_26_code
def yX6_fee : MethodName := ⟨RX6, "fee", "()I"⟩
abbrev cX6_fine : ByteArray := prog_1_method_27_code
def yX6_fine : MethodName := ⟨RX6, "fine", "(I)I"⟩
abbrev cX6_feed : ByteArray := prog_1_method_28_code
def yX6_feed : MethodName := ⟨RX6, "feed", "(III)I"⟩
abbrev cX6_trim : ByteArray := prog_1_method_29_code
def yX6_trim : MethodName := ⟨RX6, "trim", "(I)I"⟩
abbrev cX6_text : ByteArray := prog_1_method_30_code
def yX6_text : MethodName := ⟨RX6, "text", "()I"⟩
abbrev cX6_textTold : ByteArray := prog_1_method_31_code
def yX6_textTold : MethodName := ⟨RX6, "textTold", "(II)I"⟩
abbrev cX6_why : ByteArray := prog_1_method_32_code
def yX6_why : MethodName := ⟨RX6, "why", "(I)I"⟩
abbrev cX6_sheet : ByteArray := prog_1_method_33_code
def yX6_sheet : MethodName := ⟨RX6, "sheet", "(III)I"⟩
abbrev cX6_mark : ByteArray := prog_1_method_34_code
def yX6_mark : MethodName := ⟨RX6, "mark", "(III)I"⟩
abbrev cX6_pour : ByteArray := prog_1_method_35_code
def yX6_pour : MethodName := ⟨RX6, "pour", "(I)I"⟩
abbrev cX6_reads : ByteArray := prog_1_method_36_code
def yX6_reads : MethodName := ⟨RX6, "reads", "(I)I"⟩
abbrev cX6_copy : ByteArray := prog_1_method_37_code
def yX6_copy : MethodName := ⟨RX6, "copy", "(IIIII)I"⟩
abbrev cX6_lay : ByteArray := prog_1_method_38_code
def yX6_lay : MethodName := ⟨RX6, "lay", "(III)I"⟩
abbrev cX6_ask : ByteArray := prog_1_method_39_code
def yX6_ask : MethodName := ⟨RX6, "ask", "(II)I"⟩
abbrev cX6_item : ByteArray := prog_1_method_40_code
def yX6_item : MethodName := ⟨RX6, "item", "(II)I"⟩
abbrev cX6_rest : ByteArray := prog_1_method_41_code
def yX6_rest : MethodName := ⟨RX6, "rest", "(II)I"⟩
abbrev cX6_tell : ByteArray := prog_1_method_42_code
def yX6_tell : MethodName := ⟨RX6, "tell", "(I)I"⟩
abbrev cX6_check : ByteArray := prog_1_method_43_code
def yX6_check : MethodName := ⟨RX6, "check", "(I)I"⟩
abbrev cX6_keep : ByteArray := prog_1_method_44_code
def yX6_keep : MethodName := ⟨RX6, "keep", "()I"⟩
abbrev cX6_back : ByteArray := prog_1_method_45_code
def yX6_back : MethodName := ⟨RX6, "back", "()I"⟩
abbrev cX6_count : ByteArray := prog_1_method_46_code
def yX6_count : MethodName := ⟨RX6, "count", "(I)I"⟩
abbrev cX6_isWithin : ByteArray := prog_1_method_47_code
def yX6_isWithin : MethodName := ⟨RX6, "isWithin", "(III)Z"⟩
abbrev cX6_isSheet : ByteArray := prog_1_method_48_code
def yX6_isSheet : MethodName := ⟨RX6, "isSheet", "(I)Z"⟩
abbrev cX6_isSlot : ByteArray := prog_1_method_49_code
def yX6_isSlot : MethodName := ⟨RX6, "isSlot", "(I)Z"⟩
def RX7 : String := "DustySayingsModel"
def TX7 : u_T := fun k => match k with
  | 0 => ("DustySayingsModel", "now", "[I", true)
  | 1 => ("DustySayingsModel", "image", "[I", true)
  | 2 => ("DustySayingsModel", "aside", "[I", true)
  | 3 => ("DustySayingsModel", "hasImage", "Z", false)
  | 4 => ("DustySayingsModel", "unlike", "[I", true)
  | 5 => ("DustySayingsModel", "tape", "[I", true)
  | 6 => ("DustySayingsModel", "taped", "I", false)
  | 7 => ("DustySayingsModel", "next", "I", false)
  | 8 => ("DustySayingsModel", "from", "I", false)
  | 9 => ("DustySayingsModel", "token", "I", false)
  | 10 => ("DustySayingsModel", "value", "I", false)
  | 11 => ("DustySayingsModel", "ended", "I", false)
  | 12 => ("DustySayingsModel", "key", "I", false)
  | 13 => ("DustySayingsModel", "keys", "[C", true)
  | 14 => ("DustySayingsModel", "keyAt", "[I", true)
  | 15 => ("DustySayingsModel", "code", "[I", true)
  | 16 => ("DustySayingsModel", "codes", "I", false)
  | 17 => ("DustySayingsModel", "atoms", "I", false)
  | 18 => ("DustySayingsModel", "waits", "[I", true)
  | 19 => ("DustySayingsModel", "held", "I", false)
  | 20 => ("DustySayingsModel", "tested", "[Z", true)
  | 21 => ("DustySayingsModel", "stack", "[I", true)
  | 22 => ("DustySayingsModel", "facts", "[I", true)
  | 23 => ("DustySayingsModel", "sorts", "[I", true)
  | 24 => ("DustySayingsModel", "sizes", "[I", true)
  | 25 => ("DustySayingsModel", "cells", "[I", true)
  | 26 => ("DustySayingsModel", "holds", "[I", true)
  | 27 => ("DustySayingsModel", "holdsA", "[I", true)
  | 28 => ("DustySayingsModel", "holdsB", "[I", true)
  | 29 => ("DustySayingsModel", "heldCells", "[I", true)
  | 30 => ("DustySayingsModel", "moved", "[I", true)
  | 31 => ("DustySayingsModel", "tells", "[I", true)
  | _ => ("DustySayingsModel", "waiting", "I", false)
def tyX7 : Nat → FieldType := fun k => match k with
  | 0 => .array .int
  | 1 => .array .int
  | 2 => .array .int
  | 3 => .boolean
  | 4 => .array .int
  | 5 => .array .int
  | 6 => .int
  | 7 => .int
  | 8 => .int
  | 9 => .int
  | 10 => .int
  | 11 => .int
  | 12 => .int
  | 13 => .array .char
  | 14 => .array .int
  | 15 => .array .int
  | 16 => .int
  | 17 => .int
  | 18 => .array .int
  | 19 => .int
  | 20 => .array .boolean
  | 21 => .array .int
  | 22 => .array .int
  | 23 => .array .int
  | 24 => .array .int
  | 25 => .array .int
  | 26 => .array .int
  | 27 => .array .int
  | 28 => .array .int
  | 29 => .array .int
  | 30 => .array .int
  | 31 => .array .int
  | _ => .int
theorem nmX7 : ∀ a, a < 33 → ∀ b, b < 33 → a ≠ b → (TX7 a).2.1 ≠ (TX7 b).2.1 := by decide +kernel
theorem tyX7_ok : ∀ k, k < 33 → parseFieldDescriptor (TX7 k).2.2.1 = some (tyX7 k) := by decide +kernel
abbrev cX7_init : ByteArray := prog_9_method_1_code
def yX7_init : MethodName := ⟨RX7, "<init>", "()V"⟩
abbrev cX7_in : ByteArray := prog_9_method_2_code
def yX7_in : MethodName := ⟨RX7, "in", "(III)Z"⟩
abbrev cX7_within : ByteArray := prog_9_method_3_code
def yX7_within : MethodName := ⟨RX7, "within", "(III)I"⟩
abbrev cX7_copyAll : ByteArray := prog_9_method_4_code
def yX7_copyAll : MethodName := ⟨RX7, "copyAll", "([I[I)V"⟩
abbrev cX7_bits : ByteArray := prog_9_method_5_code
def yX7_bits : MethodName := ⟨RX7, "bits", "(I)I"⟩
abbrev cX7_isSaying : ByteArray := prog_9_method_6_code
def yX7_isSaying : MethodName := ⟨RX7, "isSaying", "(I)Z"⟩
abbrev cX7_isCorner : ByteArray := prog_9_method_7_code
def yX7_isCorner : MethodName := ⟨RX7, "isCorner", "(I)Z"⟩
abbrev cX7_of : ByteArray := prog_9_method_8_code
def yX7_of : MethodName := ⟨RX7, "of", "(II)I"⟩
abbrev cX7_put : ByteArray := prog_9_method_9_code
def yX7_put : MethodName := ⟨RX7, "put", "(III)V"⟩
abbrev cX7_swaps : ByteArray := prog_9_method_10_code
def yX7_swaps : MethodName := ⟨RX7, "swaps", "(II)I"⟩
abbrev cX7_off : ByteArray := prog_9_method_11_code
def yX7_off : MethodName := ⟨RX7, "off", "(I)I"⟩
abbrev cX7_saidIn : ByteArray := prog_9_method_12_code
def yX7_saidIn : MethodName := ⟨RX7, "saidIn", "(I)I"⟩
abbrev cX7_plainBloom : ByteArray := prog_9_method_13_code
def yX7_plainBloom : MethodName := ⟨RX7, "plainBloom", "(I)I"⟩
abbrev cX7_fellows : ByteArray := prog_9_method_14_code
def yX7_fellows : MethodName := ⟨RX7, "fellows", "(III)I"⟩
abbrev cX7_gathers : ByteArray := prog_9_method_15_code
def yX7_gathers : MethodName := ⟨RX7, "gathers", "(I)I"⟩
abbrev cX7_draws : ByteArray := prog_9_method_16_code
def yX7_draws : MethodName := ⟨RX7, "draws", "(I)I"⟩
abbrev cX7_worthOf : ByteArray := prog_9_method_17_code
def yX7_worthOf : MethodName := ⟨RX7, "worthOf", "(I)I"⟩
abbrev cX7_comes : ByteArray := prog_9_method_18_code
def yX7_comes : MethodName := ⟨RX7, "comes", "(IIII)I"⟩
abbrev cX7_saying : ByteArray := prog_9_method_19_code
def yX7_saying : MethodName := ⟨RX7, "saying", "(III)I"⟩
abbrev cX7_told : ByteArray := prog_9_method_20_code
def yX7_told : MethodName := ⟨RX7, "told", "(II)I"⟩
abbrev cX7_isUnder : ByteArray := prog_9_method_21_code
def yX7_isUnder : MethodName := ⟨RX7, "isUnder", "(II)Z"⟩
abbrev cX7_as : ByteArray := prog_9_method_22_code
def yX7_as : MethodName := ⟨RX7, "as", "(II)I"⟩
abbrev cX7_turns : ByteArray := prog_9_method_23_code
def yX7_turns : MethodName := ⟨RX7, "turns", "(II)I"⟩
abbrev cX7_set : ByteArray := prog_9_method_24_code
def yX7_set : MethodName := ⟨RX7, "set", "(III)I"⟩
abbrev cX7_moves : ByteArray := prog_9_method_25_code
def yX7_moves : MethodName := ⟨RX7, "moves", "(II)I"⟩
abbrev cX7_goesOver : ByteArray := prog_9_method_26_code
def yX7_goesOver : MethodName := ⟨RX7, "goesOver", "(I)I"⟩
abbrev cX7_dusts : ByteArray := prog_9_method_27_code
def yX7_dusts : MethodName := ⟨RX7, "dusts", "(I)I"⟩
abbrev cX7_heed : ByteArray := prog_9_method_28_code
def yX7_heed : MethodName := ⟨RX7, "heed", "(II)I"⟩
abbrev cX7_buriedOnes : ByteArray := prog_9_method_29_code
def yX7_buriedOnes : MethodName := ⟨RX7, "buriedOnes", "()I"⟩
abbrev cX7_drawn : ByteArray := prog_9_method_30_code
def yX7_drawn : MethodName := ⟨RX7, "drawn", "(I)I"⟩
abbrev cX7_worthIn : ByteArray := prog_9_method_31_code
def yX7_worthIn : MethodName := ⟨RX7, "worthIn", "(I)I"⟩
abbrev cX7_cornerOf : ByteArray := prog_9_method_32_code
def yX7_cornerOf : MethodName := ⟨RX7, "cornerOf", "(II)I"⟩
abbrev cX7_kicks : ByteArray := prog_9_method_33_code
def yX7_kicks : MethodName := ⟨RX7, "kicks", "(I)I"⟩
abbrev cX7_draw : ByteArray := prog_9_method_34_code
def yX7_draw : MethodName := ⟨RX7, "draw", "()I"⟩
abbrev cX7_deal : ByteArray := prog_9_method_35_code
def yX7_deal : MethodName := ⟨RX7, "deal", "(I)I"⟩
abbrev cX7_seed : ByteArray := prog_9_method_36_code
def yX7_seed : MethodName := ⟨RX7, "seed", "(I)I"⟩
abbrev cX7_dustiest : ByteArray := prog_9_method_37_code
def yX7_dustiest : MethodName := ⟨RX7, "dustiest", "(I)I"⟩
abbrev cX7_maid : ByteArray := prog_9_method_38_code
def yX7_maid : MethodName := ⟨RX7, "maid", "()I"⟩
abbrev cX7_evening : ByteArray := prog_9_method_39_code
def yX7_evening : MethodName := ⟨RX7, "evening", "()V"⟩
abbrev cX7_goesOn : ByteArray := prog_9_method_40_code
def yX7_goesOn : MethodName := ⟨RX7, "goesOn", "(I)V"⟩
abbrev cX7_evenings : ByteArray := prog_9_method_41_code
def yX7_evenings : MethodName := ⟨RX7, "evenings", "(I)I"⟩
abbrev cX7_allDust : ByteArray := prog_9_method_42_code
def yX7_allDust : MethodName := ⟨RX7, "allDust", "()I"⟩
abbrev cX7_peopled : ByteArray := prog_9_method_43_code
def yX7_peopled : MethodName := ⟨RX7, "peopled", "()I"⟩
abbrev cX7_deafest : ByteArray := prog_9_method_44_code
def yX7_deafest : MethodName := ⟨RX7, "deafest", "()I"⟩
abbrev cX7_allHeed : ByteArray := prog_9_method_45_code
def yX7_allHeed : MethodName := ⟨RX7, "allHeed", "()I"⟩
abbrev cX7_room : ByteArray := prog_9_method_46_code
def yX7_room : MethodName := ⟨RX7, "room", "(I)I"⟩
abbrev cX7_thinks : ByteArray := prog_9_method_47_code
def yX7_thinks : MethodName := ⟨RX7, "thinks", "()V"⟩
abbrev cX7_putsBack : ByteArray := prog_9_method_48_code
def yX7_putsBack : MethodName := ⟨RX7, "putsBack", "()V"⟩
abbrev cX7_behind : ByteArray := prog_9_method_49_code
def yX7_behind : MethodName := ⟨RX7, "behind", "(II)I"⟩
abbrev cX7_sinks : ByteArray := prog_9_method_50_code
def yX7_sinks : MethodName := ⟨RX7, "sinks", "(I)I"⟩
abbrev cX7_hears : ByteArray := prog_9_method_51_code
def yX7_hears : MethodName := ⟨RX7, "hears", "(II)I"⟩
abbrev cX7_isBright : ByteArray := prog_9_method_52_code
def yX7_isBright : MethodName := ⟨RX7, "isBright", "(II)Z"⟩
abbrev cX7_shine : ByteArray := prog_9_method_53_code
def yX7_shine : MethodName := ⟨RX7, "shine", "(I)I"⟩
abbrev cX7_dustOn : ByteArray := prog_9_method_54_code
def yX7_dustOn : MethodName := ⟨RX7, "dustOn", "(II)I"⟩
abbrev cX7_edge : ByteArray := prog_9_method_55_code
def yX7_edge : MethodName := ⟨RX7, "edge", "(III)I"⟩
abbrev cX7_place : ByteArray := prog_9_method_56_code
def yX7_place : MethodName := ⟨RX7, "place", "(III)I"⟩
abbrev cX7_becomes : ByteArray := prog_9_method_57_code
def yX7_becomes : MethodName := ⟨RX7, "becomes", "(III)I"⟩
abbrev cX7_like : ByteArray := prog_9_method_58_code
def yX7_like : MethodName := ⟨RX7, "like", "(II)I"⟩
abbrev cX7_fee : ByteArray := prog_9_method_59_code
def yX7_fee : MethodName := ⟨RX7, "fee", "()I"⟩
abbrev cX7_fine : ByteArray := prog_9_method_60_code
def yX7_fine : MethodName := ⟨RX7, "fine", "(I)I"⟩
abbrev cX7_feed : ByteArray := prog_9_method_61_code
def yX7_feed : MethodName := ⟨RX7, "feed", "(III)I"⟩
abbrev cX7_trim : ByteArray := prog_9_method_62_code
def yX7_trim : MethodName := ⟨RX7, "trim", "(I)I"⟩
abbrev cX7_isLetter : ByteArray := prog_9_method_63_code
def yX7_isLetter : MethodName := ⟨RX7, "isLetter", "(I)Z"⟩
abbrev cX7_isFigure : ByteArray := prog_9_method_64_code
def yX7_isFigure : MethodName := ⟨RX7, "isFigure", "(I)Z"⟩
abbrev cX7_go : ByteArray := prog_9_method_65_code
def yX7_go : MethodName := ⟨RX7, "go", "()V"⟩
abbrev cX7_takesKey : ByteArray := prog_9_method_66_code
def yX7_takesKey : MethodName := ⟨RX7, "takesKey", "()Z"⟩
abbrev cX7_nameOf : ByteArray := prog_9_method_67_code
def yX7_nameOf : MethodName := ⟨RX7, "nameOf", "(I)I"⟩
abbrev cX7_rank : ByteArray := prog_9_method_68_code
def yX7_rank : MethodName := ⟨RX7, "rank", "(I)I"⟩
abbrev cX7_settle : ByteArray := prog_9_method_69_code
def yX7_settle : MethodName := ⟨RX7, "settle", "(I)V"⟩
abbrev cX7_signHere : ByteArray := prog_9_method_70_code
def yX7_signHere : MethodName := ⟨RX7, "signHere", "()I"⟩
abbrev cX7_takesPart : ByteArray := prog_9_method_71_code
def yX7_takesPart : MethodName := ⟨RX7, "takesPart", "()Z"⟩
abbrev cX7_takesE : ByteArray := prog_9_method_72_code
def yX7_takesE : MethodName := ⟨RX7, "takesE", "()Z"⟩
abbrev cX7_notsOpen : ByteArray := prog_9_method_73_code
def yX7_notsOpen : MethodName := ⟨RX7, "notsOpen", "()I"⟩
abbrev cX7_text : ByteArray := prog_9_method_74_code
def yX7_text : MethodName := ⟨RX7, "text", "()I"⟩
abbrev cX7_textTold : ByteArray := prog_9_method_75_code
def yX7_textTold : MethodName := ⟨RX7, "textTold", "(II)I"⟩
abbrev cX7_counts : ByteArray := prog_9_method_76_code
def yX7_counts : MethodName := ⟨RX7, "counts", "(I)I"⟩
abbrev cX7_why : ByteArray := prog_9_method_77_code
def yX7_why : MethodName := ⟨RX7, "why", "(I)I"⟩
abbrev cX7_two : ByteArray := prog_9_method_78_code
def yX7_two : MethodName := ⟨RX7, "two", "(III)I"⟩
abbrev cX7_worksOut : ByteArray := prog_9_method_79_code
def yX7_worksOut : MethodName := ⟨RX7, "worksOut", "(I)I"⟩
abbrev cX7_isSheet : ByteArray := prog_9_method_80_code
def yX7_isSheet : MethodName := ⟨RX7, "isSheet", "(I)Z"⟩
abbrev cX7_isSlot : ByteArray := prog_9_method_81_code
def yX7_isSlot : MethodName := ⟨RX7, "isSlot", "(I)Z"⟩
abbrev cX7_sheet : ByteArray := prog_9_method_82_code
def yX7_sheet : MethodName := ⟨RX7, "sheet", "(III)I"⟩
abbrev cX7_mark : ByteArray := prog_9_method_83_code
def yX7_mark : MethodName := ⟨RX7, "mark", "(III)I"⟩
abbrev cX7_pour : ByteArray := prog_9_method_84_code
def yX7_pour : MethodName := ⟨RX7, "pour", "(I)I"⟩
abbrev cX7_reads : ByteArray := prog_9_method_85_code
def yX7_reads : MethodName := ⟨RX7, "reads", "(I)I"⟩
abbrev cX7_copy : ByteArray := prog_9_method_86_code
def yX7_copy : MethodName := ⟨RX7, "copy", "(IIIII)I"⟩
abbrev cX7_lay : ByteArray := prog_9_method_87_code
def yX7_lay : MethodName := ⟨RX7, "lay", "(III)I"⟩
abbrev cX7_ask : ByteArray := prog_9_method_88_code
def yX7_ask : MethodName := ⟨RX7, "ask", "(II)I"⟩
abbrev cX7_item : ByteArray := prog_9_method_89_code
def yX7_item : MethodName := ⟨RX7, "item", "(II)I"⟩
abbrev cX7_rest : ByteArray := prog_9_method_90_code
def yX7_rest : MethodName := ⟨RX7, "rest", "(II)I"⟩
abbrev cX7_tell : ByteArray := prog_9_method_91_code
def yX7_tell : MethodName := ⟨RX7, "tell", "(I)I"⟩
abbrev cX7_check : ByteArray := prog_9_method_92_code
def yX7_check : MethodName := ⟨RX7, "check", "(I)I"⟩
abbrev cX7_keep : ByteArray := prog_9_method_93_code
def yX7_keep : MethodName := ⟨RX7, "keep", "()I"⟩
abbrev cX7_back : ByteArray := prog_9_method_94_code
def yX7_back : MethodName := ⟨RX7, "back", "()I"⟩
abbrev cX7_count : ByteArray := prog_9_method_95_code
def yX7_count : MethodName := ⟨RX7, "count", "(I)I"⟩
def RJ6 : String := "java/lang/Integer"
abbrev cJ6_bitCount_0f7a4 : ByteArray := prog_11_method_49_code
def yJ6_bitCount_0f7a4 : MethodName := ⟨RJ6, "bitCount", "(I)I"⟩
def RJ9 : String := "java/lang/Math"
abbrev cJ9_abs_0f7a4 : ByteArray := prog_12_method_59_code
def yJ9_abs_0f7a4 : MethodName := ⟨RJ9, "abs", "(I)I"⟩
abbrev cJ9_max_7cf53 : ByteArray := prog_12_method_65_code
def yJ9_max_7cf53 : MethodName := ⟨RJ9, "max", "(II)I"⟩
abbrev cJ9_min_7cf53 : ByteArray := prog_12_method_69_code
def yJ9_min_7cf53 : MethodName := ⟨RJ9, "min", "(II)I"⟩
def RJ0 : String := "java/lang/String"
abbrev cJ0_length_8abf5 : ByteArray := prog_13_method_54_code
def yJ0_length_8abf5 : MethodName := ⟨RJ0, "length", "()I"⟩
abbrev cJ0_charAt_5068e : ByteArray := prog_13_method_56_code
def yJ0_charAt_5068e : MethodName := ⟨RJ0, "charAt", "(I)C"⟩
abbrev cJ0_indexOf_0f7a4 : ByteArray := prog_13_method_79_code
def yJ0_indexOf_0f7a4 : MethodName := ⟨RJ0, "indexOf", "(I)I"⟩
abbrev cJ0_indexOf_7cf53 : ByteArray := prog_13_method_80_code
def yJ0_indexOf_7cf53 : MethodName := ⟨RJ0, "indexOf", "(II)I"⟩
abbrev cJ0_coder_7d493 : ByteArray := prog_13_method_152_code
def yJ0_coder_7d493 : MethodName := ⟨RJ0, "coder", "()B"⟩
abbrev cJ0_isLatin1_aae02 : ByteArray := prog_13_method_154_code
def yJ0_isLatin1_aae02 : MethodName := ⟨RJ0, "isLatin1", "()Z"⟩
abbrev cJ0_checkIndex_df160 : ByteArray := prog_13_method_155_code
def yJ0_checkIndex_df160 : MethodName := ⟨RJ0, "checkIndex", "(II)V"⟩
abbrev cJ0_checkBoundsBeginEnd_23922 : ByteArray := prog_13_method_158_code
def yJ0_checkBoundsBeginEnd_23922 : MethodName := ⟨RJ0, "checkBoundsBeginEnd", "(III)V"⟩
def RJ1 : String := "java/lang/StringLatin1"
abbrev cJ1_charAt_3b067 : ByteArray := prog_14_method_2_code
def yJ1_charAt_3b067 : MethodName := ⟨RJ1, "charAt", "([BI)C"⟩
abbrev cJ1_canEncode_9a6ad : ByteArray := prog_14_method_4_code
def yJ1_canEncode_9a6ad : MethodName := ⟨RJ1, "canEncode", "(I)Z"⟩
abbrev cJ1_indexOf_4cfef : ByteArray := prog_14_method_22_code
def yJ1_indexOf_4cfef : MethodName := ⟨RJ1, "indexOf", "([BIII)I"⟩
abbrev cJ1_indexOfChar_4cfef : ByteArray := prog_14_method_23_code
def yJ1_indexOfChar_4cfef : MethodName := ⟨RJ1, "indexOfChar", "([BIII)I"⟩
def RJ3 : String := "jdk/internal/util/Preconditions"
abbrev cJ3_checkIndex_8e157 : ByteArray := prog_17_method_11_code
def yJ3_checkIndex_8e157 : MethodName := ⟨RJ3, "checkIndex", "(IILjava/util/function/BiFunction;)I"⟩
abbrev cJ3_checkFromToIndex_8c36e : ByteArray := prog_17_method_12_code
def yJ3_checkFromToIndex_8c36e : MethodName := ⟨RJ3, "checkFromToIndex", "(IIILjava/util/function/BiFunction;)I"⟩
def RL : String := "DustySayingsLaw"
end
section
/-! THE ABSTRACT MACHINE'S TABLES: methods, links, constants: written by wip/tools/gen_names.py out of the printed claim -/
/-- (name, bytes, locals, what it returns, number of its class, parameters) -/
def ab_ms0 : List (MethodName × Nat × Option FieldType × Nat × Nat) := [(yX0_isKind, 1, (some .boolean), 0, 1), (yX0_isUnder, 2, (some .boolean), 0, 2), (yX0_worth, 4, (some .int), 0, 3), (yX1_init, 1, none, 1, 0), (yX1_namesOf, 1, (some (.object "java/lang/String")), 1, 1), (yX1_wordOf, 1, (some (.object "java/lang/String")), 1, 1), (yX1_write, 3, none, 1, 2), (yX1_name, 5, none, 1, 4), (yX1_value, 6, (some .int), 1, 1), (yX1_leaf, 3, (some .int), 1, 1), (yX1_join, 3, (some .int), 1, 3), (yX1_truth, 1, (some .int), 1, 1), (yX2_init, 3, none, 2, 1), (yX2_isCorner, 1, (some .boolean), 2, 1), (yX2_held, 1, (some .int), 2, 1), (yX2_become, 2, none, 2, 1), (yX2_has, 2, (some .boolean), 2, 1), (yX2_isFull, 1, (some .boolean), 2, 0), (yX2_isBuried, 2, (some .boolean), 2, 1), (yX2_add, 5, (some .int), 2, 4), (yX2_addByLot, 5, none, 2, 0), (yX2_draw, 1, (some .int), 2, 0), (yX2_goOver, 2, none, 2, 1), (yX2_brighten, 3, none, 2, 1), (yX2_passEvenings, 3, none, 2, 1), (yX2_passEvening, 3, none, 2, 0), (yX2_dustiestIn, 7, (some .int), 2, 1), (yX2_kickByChance, 4, none, 2, 0), (yX2_gathers, 2, (some .int), 2, 1), (yX2_quipGathers, 2, (some .int), 2, 1), (yX2_plainBloom, 4, (some .int), 2, 1), (yX2_othersBeside, 5, (some .int), 2, 2), (yX2_draws, 3, (some .int), 2, 1), (yX2_worth, 2, (some .int), 2, 1), (yX2_sayingsIn, 4, (some .int), 2, 1), (yX2_worthIn, 4, (some .int), 2, 1), (yX2_drawnIn, 4, (some .int), 2, 1), (yX2_buried, 3, (some .int), 2, 0), (yX2_cornersWithSayings, 3, (some .int), 2, 0), (yX2_deafest, 3, (some .int), 2, 0)]
def ab_ms1 : List (MethodName × Nat × Option FieldType × Nat × Nat) := [(yX2_allDust, 3, (some .int), 2, 0), (yX2_allHeed, 3, (some .int), 2, 0), (yX2_feeGiven, 2, (some .int), 2, 0), (yX2_fineGiven, 3, (some .int), 2, 1), (yX3_init, 1, none, 3, 0), (yX3_begin, 4, none, 3, 2), (yX3_become, 2, none, 3, 1), (yX3_isMissing, 1, (some .boolean), 3, 0), (yX3_has, 2, (some .boolean), 3, 1), (yX3_hasRun, 3, (some .boolean), 3, 2), (yX3_isNumber, 2, (some .boolean), 3, 1), (yX4_init, 1, none, 4, 0), (yX4_holdSaying, 4, none, 4, 3), (yX5_init, 1, none, 5, 0), (yX5_hasRoom, 2, (some .boolean), 5, 1), (yX5_add, 3, none, 5, 1), (yX5_isText, 1, (some .boolean), 5, 0), (yX5_pass, 5, none, 5, 0), (yX5_sortAt, 3, (some .int), 5, 1), (yX5_isSignOf, 2, (some .boolean), 5, 1), (yX5_readKey, 2, (some .boolean), 5, 0), (yX5_isWord, 3, (some .boolean), 5, 1), (yX5_signsOf, 1, (some (.object "java/lang/String")), 5, 1), (yX5_readJoined, 8, (some .boolean), 5, 3), (yX5_readPiece, 4, (some .boolean), 5, 2), (yX5_readClosing, 1, (some .boolean), 5, 0), (yX5_readNumber, 3, (some .boolean), 5, 0), (yX5_readName, 2, (some .boolean), 5, 0), (yX5_writeLeaf, 2, none, 5, 1), (yX5_write, 2, none, 5, 1), (yX6_init, 2, none, 6, 0), (yX6_saying, 4, (some .int), 6, 3), (yX6_told, 3, (some .int), 6, 2), (yX6_as, 3, (some .int), 6, 2), (yX6_turns, 4, (some .int), 6, 2), (yX6_set, 6, (some .int), 6, 3), (yX6_moves, 4, (some .int), 6, 2), (yX6_dusts, 3, (some .int), 6, 1), (yX6_heed, 4, (some .int), 6, 2), (yX6_cornerOf, 3, (some .int), 6, 2)]
def ab_ms2 : List (MethodName × Nat × Option FieldType × Nat × Nat) := [(yX6_kicks, 3, (some .int), 6, 1), (yX6_deal, 4, (some .int), 6, 1), (yX6_seed, 3, (some .int), 6, 1), (yX6_evenings, 4, (some .int), 6, 1), (yX6_room, 2, (some .int), 6, 1), (yX6_behind, 3, (some .int), 6, 2), (yX6_sinks, 3, (some .int), 6, 1), (yX6_hears, 4, (some .int), 6, 2), (yX6_shine, 5, (some .int), 6, 1), (yX6_isEnoughShine, 3, (some .boolean), 6, 2), (yX6_edge, 5, (some .int), 6, 3), (yX6_place, 7, (some .int), 6, 3), (yX6_becomes, 7, (some .int), 6, 3), (yX6_like, 5, (some .int), 6, 2), (yX6_gatherDifferences, 4, none, 6, 1), (yX6_fee, 1, (some .int), 6, 0), (yX6_fine, 2, (some .int), 6, 1), (yX6_feed, 4, (some .int), 6, 3), (yX6_trim, 2, (some .int), 6, 1), (yX6_text, 2, (some .int), 6, 0), (yX6_textTold, 3, (some .int), 6, 2), (yX6_why, 2, (some .int), 6, 1), (yX6_sheet, 4, (some .int), 6, 3), (yX6_mark, 5, (some .int), 6, 3), (yX6_pour, 6, (some .int), 6, 1), (yX6_reads, 5, (some .int), 6, 1), (yX6_copy, 8, (some .int), 6, 5), (yX6_lay, 6, (some .int), 6, 3), (yX6_ask, 4, (some .int), 6, 2), (yX6_item, 4, (some .int), 6, 2), (yX6_rest, 4, (some .int), 6, 2), (yX6_tell, 2, (some .int), 6, 1), (yX6_check, 5, (some .int), 6, 1), (yX6_keep, 1, (some .int), 6, 0), (yX6_back, 1, (some .int), 6, 0), (yX6_count, 2, (some .int), 6, 1), (yX6_isWithin, 3, (some .boolean), 6, 3), (yX6_isSheet, 1, (some .boolean), 6, 1), (yX6_isSlot, 1, (some .boolean), 6, 1), (yX7_init, 2, none, 7, 0)]
def ab_ms3 : List (MethodName × Nat × Option FieldType × Nat × Nat) := [(yX7_in, 3, (some .boolean), 7, 3), (yX7_within, 3, (some .int), 7, 3), (yX7_copyAll, 3, none, 7, 2), (yX7_bits, 3, (some .int), 7, 1), (yX7_isSaying, 2, (some .boolean), 7, 1), (yX7_isCorner, 1, (some .boolean), 7, 1), (yX7_of, 3, (some .int), 7, 2), (yX7_put, 4, none, 7, 3), (yX7_swaps, 4, (some .int), 7, 2), (yX7_off, 1, (some .int), 7, 1), (yX7_saidIn, 4, (some .int), 7, 1), (yX7_plainBloom, 4, (some .int), 7, 1), (yX7_fellows, 7, (some .int), 7, 3), (yX7_gathers, 4, (some .int), 7, 1), (yX7_draws, 3, (some .int), 7, 1), (yX7_worthOf, 3, (some .int), 7, 1), (yX7_comes, 6, (some .int), 7, 4), (yX7_saying, 4, (some .int), 7, 3), (yX7_told, 3, (some .int), 7, 2), (yX7_isUnder, 2, (some .boolean), 7, 2), (yX7_as, 3, (some .int), 7, 2), (yX7_turns, 3, (some .int), 7, 2), (yX7_set, 4, (some .int), 7, 3), (yX7_moves, 3, (some .int), 7, 2), (yX7_goesOver, 3, (some .int), 7, 1), (yX7_dusts, 2, (some .int), 7, 1), (yX7_heed, 3, (some .int), 7, 2), (yX7_buriedOnes, 3, (some .int), 7, 0), (yX7_drawn, 5, (some .int), 7, 1), (yX7_worthIn, 5, (some .int), 7, 1), (yX7_cornerOf, 3, (some .int), 7, 2), (yX7_kicks, 2, (some .int), 7, 1), (yX7_draw, 1, (some .int), 7, 0), (yX7_deal, 7, (some .int), 7, 1), (yX7_seed, 2, (some .int), 7, 1), (yX7_dustiest, 4, (some .int), 7, 1), (yX7_maid, 5, (some .int), 7, 0), (yX7_evening, 5, none, 7, 0), (yX7_goesOn, 3, none, 7, 1), (yX7_evenings, 3, (some .int), 7, 1)]
def ab_ms4 : List (MethodName × Nat × Option FieldType × Nat × Nat) := [(yX7_allDust, 3, (some .int), 7, 0), (yX7_peopled, 3, (some .int), 7, 0), (yX7_deafest, 3, (some .int), 7, 0), (yX7_allHeed, 3, (some .int), 7, 0), (yX7_room, 2, (some .int), 7, 1), (yX7_thinks, 1, none, 7, 0), (yX7_putsBack, 1, none, 7, 0), (yX7_behind, 4, (some .int), 7, 2), (yX7_sinks, 3, (some .int), 7, 1), (yX7_hears, 4, (some .int), 7, 2), (yX7_isBright, 5, (some .boolean), 7, 2), (yX7_shine, 5, (some .int), 7, 1), (yX7_dustOn, 4, (some .int), 7, 2), (yX7_edge, 5, (some .int), 7, 3), (yX7_place, 8, (some .int), 7, 3), (yX7_becomes, 8, (some .int), 7, 3), (yX7_like, 7, (some .int), 7, 2), (yX7_fee, 2, (some .int), 7, 0), (yX7_fine, 3, (some .int), 7, 1), (yX7_feed, 6, (some .int), 7, 3), (yX7_trim, 2, (some .int), 7, 1), (yX7_isLetter, 2, (some .boolean), 7, 1), (yX7_isFigure, 2, (some .boolean), 7, 1), (yX7_go, 2, none, 7, 0), (yX7_takesKey, 5, (some .boolean), 7, 0), (yX7_nameOf, 2, (some .int), 7, 1), (yX7_rank, 1, (some .int), 7, 1), (yX7_settle, 2, none, 7, 1), (yX7_signHere, 1, (some .int), 7, 0), (yX7_takesPart, 2, (some .boolean), 7, 0), (yX7_takesE, 5, (some .boolean), 7, 0), (yX7_notsOpen, 3, (some .int), 7, 0), (yX7_text, 4, (some .int), 7, 0), (yX7_textTold, 3, (some .int), 7, 2), (yX7_counts, 3, (some .int), 7, 1), (yX7_why, 3, (some .int), 7, 1), (yX7_two, 3, (some .int), 7, 3), (yX7_worksOut, 6, (some .int), 7, 1), (yX7_isSheet, 1, (some .boolean), 7, 1), (yX7_isSlot, 1, (some .boolean), 7, 1)]
def ab_ms5 : List (MethodName × Nat × Option FieldType × Nat × Nat) := [(yX7_sheet, 5, (some .int), 7, 3), (yX7_mark, 4, (some .int), 7, 3), (yX7_pour, 6, (some .int), 7, 1), (yX7_reads, 4, (some .int), 7, 1), (yX7_copy, 7, (some .int), 7, 5), (yX7_lay, 6, (some .int), 7, 3), (yX7_ask, 3, (some .int), 7, 2), (yX7_item, 4, (some .int), 7, 2), (yX7_rest, 3, (some .int), 7, 2), (yX7_tell, 2, (some .int), 7, 1), (yX7_check, 6, (some .int), 7, 1), (yX7_keep, 1, (some .int), 7, 0), (yX7_back, 1, (some .int), 7, 0), (yX7_count, 2, (some .int), 7, 1), (yJ6_bitCount_0f7a4, 1, (some .int), 12, 1), (yJ9_abs_0f7a4, 1, (some .int), 13, 1), (yJ9_max_7cf53, 2, (some .int), 13, 2), (yJ9_min_7cf53, 2, (some .int), 13, 2), (yJ0_length_8abf5, 1, (some .int), 9, 0), (yJ0_charAt_5068e, 2, (some .char), 9, 1), (yJ0_indexOf_0f7a4, 2, (some .int), 9, 1), (yJ0_indexOf_7cf53, 3, (some .int), 9, 2), (yJ0_coder_7d493, 1, (some .byte), 9, 0), (yJ0_isLatin1_aae02, 1, (some .boolean), 9, 0), (yJ0_checkIndex_df160, 2, none, 9, 2), (yJ0_checkBoundsBeginEnd_23922, 3, none, 9, 3), (yJ1_charAt_3b067, 2, (some .char), 10, 2), (yJ1_canEncode_9a6ad, 1, (some .boolean), 10, 1), (yJ1_indexOf_4cfef, 4, (some .int), 10, 4), (yJ1_indexOfChar_4cfef, 6, (some .int), 10, 4), (yJ3_checkIndex_8e157, 3, (some .int), 11, 3), (yJ3_checkFromToIndex_8c36e, 4, (some .int), 11, 4)]
/-- the law is the last -/
def ab_msL : List (MethodName × Nat × Option FieldType × Nat × Nat) := [(x, 4, (some .boolean), 8, 1)]
def ab_ms : List (MethodName × Nat × Option FieldType × Nat × Nat) := ab_ms0 ++ (ab_ms1 ++ (ab_ms2 ++ (ab_ms3 ++ (ab_ms4 ++ (ab_ms5 ++ (ab_msL))))))
abbrev m_X0_isKind : Nat := 0
abbrev m_X0_isUnder : Nat := 1
abbrev m_X0_worth : Nat := 2
abbrev m_X1_init : Nat := 3
abbrev m_X1_namesOf : Nat := 4
abbrev m_X1_wordOf : Nat := 5
abbrev m_X1_write : Nat := 6
abbrev m_X1_name : Nat := 7
abbrev m_X1_value : Nat := 8
abbrev m_X1_leaf : Nat := 9
abbrev m_X1_join : Nat := 10
abbrev m_X1_truth : Nat := 11
abbrev m_X2_init : Nat := 12
abbrev m_X2_isCorner : Nat := 13
abbrev m_X2_held : Nat := 14
abbrev m_X2_become : Nat := 15
abbrev m_X2_has : Nat := 16
abbrev m_X2_isFull : Nat := 17
abbrev m_X2_isBuried : Nat := 18
abbrev m_X2_add : Nat := 19
abbrev m_X2_addByLot : Nat := 20
abbrev m_X2_draw : Nat := 21
abbrev m_X2_goOver : Nat := 22
abbrev m_X2_brighten : Nat := 23
abbrev m_X2_passEvenings : Nat := 24
abbrev m_X2_passEvening : Nat := 25
abbrev m_X2_dustiestIn : Nat := 26
abbrev m_X2_kickByChance : Nat := 27
abbrev m_X2_gathers : Nat := 28
abbrev m_X2_quipGathers : Nat := 29
abbrev m_X2_plainBloom : Nat := 30
abbrev m_X2_othersBeside : Nat := 31
abbrev m_X2_draws : Nat := 32
abbrev m_X2_worth : Nat := 33
abbrev m_X2_sayingsIn : Nat := 34
abbrev m_X2_worthIn : Nat := 35
abbrev m_X2_drawnIn : Nat := 36
abbrev m_X2_buried : Nat := 37
abbrev m_X2_cornersWithSayings : Nat := 38
abbrev m_X2_deafest : Nat := 39
abbrev m_X2_allDust : Nat := 40
abbrev m_X2_allHeed : Nat := 41
abbrev m_X2_feeGiven : Nat := 42
abbrev m_X2_fineGiven : Nat := 43
abbrev m_X3_init : Nat := 44
abbrev m_X3_begin : Nat := 45
abbrev m_X3_become : Nat := 46
abbrev m_X3_isMissing : Nat := 47
abbrev m_X3_has : Nat := 48
abbrev m_X3_hasRun : Nat := 49
abbrev m_X3_isNumber : Nat := 50
abbrev m_X4_init : Nat := 51
abbrev m_X4_holdSaying : Nat := 52
abbrev m_X5_init : Nat := 53
abbrev m_X5_hasRoom : Nat := 54
abbrev m_X5_add : Nat := 55
abbrev m_X5_isText : Nat := 56
abbrev m_X5_pass : Nat := 57
abbrev m_X5_sortAt : Nat := 58
abbrev m_X5_isSignOf : Nat := 59
abbrev m_X5_readKey : Nat := 60
abbrev m_X5_isWord : Nat := 61
abbrev m_X5_signsOf : Nat := 62
abbrev m_X5_readJoined : Nat := 63
abbrev m_X5_readPiece : Nat := 64
abbrev m_X5_readClosing : Nat := 65
abbrev m_X5_readNumber : Nat := 66
abbrev m_X5_readName : Nat := 67
abbrev m_X5_writeLeaf : Nat := 68
abbrev m_X5_write : Nat := 69
abbrev m_X6_init : Nat := 70
abbrev m_X6_saying : Nat := 71
abbrev m_X6_told : Nat := 72
abbrev m_X6_as : Nat := 73
abbrev m_X6_turns : Nat := 74
abbrev m_X6_set : Nat := 75
abbrev m_X6_moves : Nat := 76
abbrev m_X6_dusts : Nat := 77
abbrev m_X6_heed : Nat := 78
abbrev m_X6_cornerOf : Nat := 79
abbrev m_X6_kicks : Nat := 80
abbrev m_X6_deal : Nat := 81
abbrev m_X6_seed : Nat := 82
abbrev m_X6_evenings : Nat := 83
abbrev m_X6_room : Nat := 84
abbrev m_X6_behind : Nat := 85
abbrev m_X6_sinks : Nat := 86
abbrev m_X6_hears : Nat := 87
abbrev m_X6_shine : Nat := 88
abbrev m_X6_isEnoughShine : Nat := 89
abbrev m_X6_edge : Nat := 90
abbrev m_X6_place : Nat := 91
abbrev m_X6_becomes : Nat := 92
abbrev m_X6_like : Nat := 93
abbrev m_X6_gatherDifferences : Nat := 94
abbrev m_X6_fee : Nat := 95
abbrev m_X6_fine : Nat := 96
abbrev m_X6_feed : Nat := 97
abbrev m_X6_trim : Nat := 98
abbrev m_X6_text : Nat := 99
abbrev m_X6_textTold : Nat := 100
abbrev m_X6_why : Nat := 101
abbrev m_X6_sheet : Nat := 102
abbrev m_X6_mark : Nat := 103
abbrev m_X6_pour : Nat := 104
abbrev m_X6_reads : Nat := 105
abbrev m_X6_copy : Nat := 106
abbrev m_X6_lay : Nat := 107
abbrev m_X6_ask : Nat := 108
abbrev m_X6_item : Nat := 109
abbrev m_X6_rest : Nat := 110
abbrev m_X6_tell : Nat := 111
abbrev m_X6_check : Nat := 112
abbrev m_X6_keep : Nat := 113
abbrev m_X6_back : Nat := 114
abbrev m_X6_count : Nat := 115
abbrev m_X6_isWithin : Nat := 116
abbrev m_X6_isSheet : Nat := 117
abbrev m_X6_isSlot : Nat := 118
abbrev m_X7_init : Nat := 119
abbrev m_X7_in : Nat := 120
abbrev m_X7_within : Nat := 121
abbrev m_X7_copyAll : Nat := 122
abbrev m_X7_bits : Nat := 123
abbrev m_X7_isSaying : Nat := 124
abbrev m_X7_isCorner : Nat := 125
abbrev m_X7_of : Nat := 126
abbrev m_X7_put : Nat := 127
abbrev m_X7_swaps : Nat := 128
abbrev m_X7_off : Nat := 129
abbrev m_X7_saidIn : Nat := 130
abbrev m_X7_plainBloom : Nat := 131
abbrev m_X7_fellows : Nat := 132
abbrev m_X7_gathers : Nat := 133
abbrev m_X7_draws : Nat := 134
abbrev m_X7_worthOf : Nat := 135
abbrev m_X7_comes : Nat := 136
abbrev m_X7_saying : Nat := 137
abbrev m_X7_told : Nat := 138
abbrev m_X7_isUnder : Nat := 139
abbrev m_X7_as : Nat := 140
abbrev m_X7_turns : Nat := 141
abbrev m_X7_set : Nat := 142
abbrev m_X7_moves : Nat := 143
abbrev m_X7_goesOver : Nat := 144
abbrev m_X7_dusts : Nat := 145
abbrev m_X7_heed : Nat := 146
abbrev m_X7_buriedOnes : Nat := 147
abbrev m_X7_drawn : Nat := 148
abbrev m_X7_worthIn : Nat := 149
abbrev m_X7_cornerOf : Nat := 150
abbrev m_X7_kicks : Nat := 151
abbrev m_X7_draw : Nat := 152
abbrev m_X7_deal : Nat := 153
abbrev m_X7_seed : Nat := 154
abbrev m_X7_dustiest : Nat := 155
abbrev m_X7_maid : Nat := 156
abbrev m_X7_evening : Nat := 157
abbrev m_X7_goesOn : Nat := 158
abbrev m_X7_evenings : Nat := 159
abbrev m_X7_allDust : Nat := 160
abbrev m_X7_peopled : Nat := 161
abbrev m_X7_deafest : Nat := 162
abbrev m_X7_allHeed : Nat := 163
abbrev m_X7_room : Nat := 164
abbrev m_X7_thinks : Nat := 165
abbrev m_X7_putsBack : Nat := 166
abbrev m_X7_behind : Nat := 167
abbrev m_X7_sinks : Nat := 168
abbrev m_X7_hears : Nat := 169
abbrev m_X7_isBright : Nat := 170
abbrev m_X7_shine : Nat := 171
abbrev m_X7_dustOn : Nat := 172
abbrev m_X7_edge : Nat := 173
abbrev m_X7_place : Nat := 174
abbrev m_X7_becomes : Nat := 175
abbrev m_X7_like : Nat := 176
abbrev m_X7_fee : Nat := 177
abbrev m_X7_fine : Nat := 178
abbrev m_X7_feed : Nat := 179
abbrev m_X7_trim : Nat := 180
abbrev m_X7_isLetter : Nat := 181
abbrev m_X7_isFigure : Nat := 182
abbrev m_X7_go : Nat := 183
abbrev m_X7_takesKey : Nat := 184
abbrev m_X7_nameOf : Nat := 185
abbrev m_X7_rank : Nat := 186
abbrev m_X7_settle : Nat := 187
abbrev m_X7_signHere : Nat := 188
abbrev m_X7_takesPart : Nat := 189
abbrev m_X7_takesE : Nat := 190
abbrev m_X7_notsOpen : Nat := 191
abbrev m_X7_text : Nat := 192
abbrev m_X7_textTold : Nat := 193
abbrev m_X7_counts : Nat := 194
abbrev m_X7_why : Nat := 195
abbrev m_X7_two : Nat := 196
abbrev m_X7_worksOut : Nat := 197
abbrev m_X7_isSheet : Nat := 198
abbrev m_X7_isSlot : Nat := 199
abbrev m_X7_sheet : Nat := 200
abbrev m_X7_mark : Nat := 201
abbrev m_X7_pour : Nat := 202
abbrev m_X7_reads : Nat := 203
abbrev m_X7_copy : Nat := 204
abbrev m_X7_lay : Nat := 205
abbrev m_X7_ask : Nat := 206
abbrev m_X7_item : Nat := 207
abbrev m_X7_rest : Nat := 208
abbrev m_X7_tell : Nat := 209
abbrev m_X7_check : Nat := 210
abbrev m_X7_keep : Nat := 211
abbrev m_X7_back : Nat := 212
abbrev m_X7_count : Nat := 213
abbrev m_J6_bitCount_0f7a4 : Nat := 214
abbrev m_J9_abs_0f7a4 : Nat := 215
abbrev m_J9_max_7cf53 : Nat := 216
abbrev m_J9_min_7cf53 : Nat := 217
abbrev m_J0_length_8abf5 : Nat := 218
abbrev m_J0_charAt_5068e : Nat := 219
abbrev m_J0_indexOf_0f7a4 : Nat := 220
abbrev m_J0_indexOf_7cf53 : Nat := 221
abbrev m_J0_coder_7d493 : Nat := 222
abbrev m_J0_isLatin1_aae02 : Nat := 223
abbrev m_J0_checkIndex_df160 : Nat := 224
abbrev m_J0_checkBoundsBeginEnd_23922 : Nat := 225
abbrev m_J1_charAt_3b067 : Nat := 226
abbrev m_J1_canEncode_9a6ad : Nat := 227
abbrev m_J1_indexOf_4cfef : Nat := 228
abbrev m_J1_indexOfChar_4cfef : Nat := 229
abbrev m_J3_checkIndex_8e157 : Nat := 230
abbrev m_J3_checkFromToIndex_8c36e : Nat := 231
abbrev m_law : Nat := 232
def ab_nM : Nat := 232
/-- where each method's code stands among the tables' words -/
def ab_cp : List Nat := [314, 397, 408, 87, 740, 658, 821, 366, 370, 375, 381, 378, 117, 321, 384, 529, 340, 331, 457, 327, 476, 480, 435, 559, 536, 494, 498, 505, 344, 348, 352, 394, 401, 405, 356, 448, 462, 453, 517, 521, 513, 576, 608, 616, 226, 839, 885, 587, 848, 869, 596, 246, 881, 184, 624, 629, 641, 645, 649, 803, 655, 665, 812, 717, 721, 808, 725, 737, 729, 733, 79, 311, 336, 413, 419, 423, 427, 431, 439, 443, 467, 471, 486, 490, 509, 525, 541, 547, 551, 555, 563, 567, 572, 580, 592, 604, 612, 620, 633, 637, 827, 831, 835, 844, 856, 861, 865, 874, 890, 895, 899, 904, 908, 912, 916, 920, 317, 583, 877, 925, 1035, 1089, 1217, 1079, 1056, 1038, 1060, 1048, 1117, 1269, 1076, 1068, 1093, 1064, 1097, 1101, 1044, 1032, 1052, 1108, 1105, 1113, 1121, 1125, 1133, 1129, 1137, 1149, 1153, 1145, 1141, 1157, 1165, 1161, 1170, 1190, 1186, 1182, 1178, 1174, 1198, 1202, 1206, 1258, 1194, 1214, 1221, 1210, 1225, 1230, 1238, 1234, 1246, 1242, 1250, 1254, 1262, 1273, 1277, 1281, 1285, 1297, 1301, 1293, 1305, 1317, 1324, 1321, 1332, 1313, 1309, 1328, 1289, 1336, 1072, 1340, 1086, 1083, 1265, 1371, 1344, 1349, 1356, 1360, 1364, 1368, 1375, 1379, 1383, 1388, 1392, 1396, 1400, 1404, 359, 600, 390, 387, 669, 679, 747, 751, 673, 683, 689, 778, 686, 758, 755, 763, 694, 781]
def ab_cb (w : Cond) : ByteArray := match w with
  | .code _ b _ _ => b
  | _ => code
def ab_cd (k : Nat) : Cond := lw_tbl.getD (ab_cp.getD k 0) .tt
def ab_m (k : Nat) : MethodName × Nat × Option FieldType × Nat × Nat := ab_ms.getD k (x, 4, none, 8, 1)
def ab_Y (k : Nat) : MethodName := (ab_m k).1
def ab_B (k : Nat) : ByteArray := if k = ab_nM then code else ab_cb (ab_cd k)
def ab_mL (k : Nat) : Nat := (ab_m k).2.1
def ab_rt (k : Nat) : Option FieldType := (ab_m k).2.2.1
def ab_own (k : Nat) : Nat := (ab_m k).2.2.2.1
def ab_np (k : Nat) : Nat := (ab_m k).2.2.2.2
def ab_R (c : Nat) : String := [RX0, RX1, RX2, RX3, RX4, RX5, RX6, RX7, RL, RJ0, RJ1, RJ3, RJ6, RJ9].getD c ""
abbrev ab_cl : List vw_C := [(RX0, TX0, 0), (RX1, TX1, 6), (RX2, TX2, 15), (RX3, TX3, 3), (RX4, TX4, 6), (RX5, TX5, 9), (RX6, TX6, 11), (RX7, TX7, 33)]
def ab_T (c : Nat) : u_T := match c with
  | 0 => TX0
  | 1 => TX1
  | 2 => TX2
  | 3 => TX3
  | 4 => TX4
  | 5 => TX5
  | 6 => TX6
  | _ => TX7
def ab_ty (c : Nat) : Nat → FieldType := match c with
  | 0 => tyX0
  | 1 => tyX1
  | 2 => tyX2
  | 3 => tyX3
  | 4 => tyX4
  | 5 => tyX5
  | 6 => tyX6
  | _ => tyX7
def ab_N (c : Nat) : Nat := [0, 6, 15, 3, 6, 9, 11, 33].getD c 0
/-- own class, entry, class of the field, its place -/
def ab_flT : List (Nat × Nat × Nat × Nat) := [(1, 9, 1, 0), (6, 249, 1, 0), (1, 13, 1, 1), (6, 252, 1, 1), (1, 16, 1, 2), (1, 23, 1, 3), (1, 26, 1, 4), (1, 29, 1, 5), (2, 39, 2, 0), (2, 11, 2, 1), (6, 80, 2, 1), (2, 15, 2, 2), (6, 83, 2, 2), (2, 18, 2, 3), (6, 86, 2, 3), (2, 21, 2, 4), (6, 89, 2, 4), (2, 24, 2, 5), (6, 92, 2, 5), (2, 27, 2, 6), (6, 114, 2, 6), (2, 32, 2, 7), (6, 243, 2, 7), (2, 63, 2, 8), (6, 181, 2, 8), (2, 66, 2, 9), (6, 236, 2, 9), (2, 69, 2, 10), (6, 135, 2, 10), (2, 72, 2, 11), (6, 149, 2, 11), (2, 75, 2, 12), (6, 158, 2, 12), (2, 78, 2, 13), (6, 152, 2, 13), (2, 35, 2, 14), (6, 146, 2, 14), (5, 9, 5, 0), (5, 16, 5, 1), (6, 229, 5, 1), (5, 43, 5, 2), (6, 233, 5, 2), (5, 20, 5, 3), (5, 23, 5, 4), (1, 50, 5, 5), (5, 76, 5, 5), (6, 246, 5, 5), (5, 26, 5, 6), (1, 54, 5, 6), (5, 29, 5, 7), (1, 56, 5, 7), (5, 13, 5, 8), (1, 59, 5, 8), (3, 11, 3, 0), (6, 209, 3, 0), (3, 15, 3, 1), (6, 262, 3, 1), (3, 19, 3, 2), (6, 205, 3, 2), (4, 10, 4, 0), (6, 289, 4, 0), (4, 16, 4, 1), (6, 282, 4, 1), (6, 295, 4, 2), (4, 20, 4, 3), (6, 298, 4, 3), (4, 23, 4, 4), (6, 300, 4, 4), (4, 26, 4, 5), (6, 302, 4, 5), (6, 10, 6, 0), (6, 21, 6, 1), (6, 25, 6, 2), (6, 28, 6, 3), (6, 34, 6, 4), (6, 40, 6, 5), (6, 47, 6, 6), (6, 52, 6, 7), (6, 56, 6, 8), (6, 311, 6, 9), (6, 308, 6, 10), (7, 9, 7, 0), (7, 13, 7, 1), (7, 16, 7, 2), (7, 285, 7, 3), (7, 19, 7, 4), (7, 22, 7, 5), (7, 206, 7, 6), (7, 210, 7, 7), (7, 213, 7, 8), (7, 219, 7, 9), (7, 225, 7, 10), (7, 216, 7, 11), (7, 231, 7, 12), (7, 25, 7, 13), (7, 29, 7, 14), (7, 32, 7, 15), (7, 243, 7, 16), (7, 249, 7, 17), (7, 35, 7, 18), (7, 237, 7, 19), (7, 38, 7, 20), (7, 42, 7, 21), (7, 45, 7, 22), (7, 48, 7, 23), (7, 51, 7, 24), (7, 54, 7, 25), (7, 57, 7, 26), (7, 60, 7, 27), (7, 63, 7, 28), (7, 66, 7, 29), (7, 69, 7, 30), (7, 72, 7, 31), (7, 282, 7, 32)]
def ab_fl (o j : Nat) : Option (Nat × Nat) := (ab_flT.find? fun e => e.1 == o && e.2.1 == j).map fun e => e.2.2
/-- String.value, String.coder -/
def ab_fsV : Nat := 9
def ab_fsC : Nat := 15
/-- statics: COMPACT_STRINGS, SIOOBE_FORMATTER -/
def ab_sfZ : Nat := 38
def ab_sfF : Nat := 1053
def ab_mlV : List (Nat × Nat × Nat) := [(8, 13, 71), (6, 73, 19), (2, 81, 17), (8, 18, 72), (6, 77, 16), (6, 95, 28), (2, 128, 29), (2, 131, 30), (2, 137, 34), (2, 145, 7), (2, 149, 8), (1, 67, 9), (2, 134, 31), (6, 99, 32), (6, 102, 33), (8, 23, 73), (8, 27, 74), (8, 31, 75), (8, 35, 76), (8, 39, 77), (6, 110, 22), (8, 44, 78), (8, 48, 79), (6, 117, 34), (6, 120, 35), (2, 156, 33), (6, 123, 37), (2, 108, 18), (6, 132, 36), (2, 158, 32), (8, 52, 80), (8, 56, 81), (6, 139, 17), (6, 143, 20), (2, 86, 21), (2, 92, 19), (8, 60, 82), (8, 64, 83), (6, 155, 25), (2, 100, 26), (2, 104, 22), (2, 112, 28), (2, 115, 36), (2, 121, 27), (8, 68, 84), (6, 161, 40), (6, 164, 38), (6, 167, 39), (8, 72, 85), (6, 170, 15), (6, 174, 24), (2, 97, 25), (8, 76, 86), (6, 177, 18), (8, 80, 87), (8, 84, 88), (6, 184, 89), (6, 187, 23), (8, 88, 90), (8, 92, 91), (8, 96, 92), (6, 191, 41), (8, 100, 93), (6, 197, 47), (6, 201, 94), (6, 206, 50), (8, 104, 95), (6, 217, 42), (8, 109, 96), (6, 220, 43), (8, 113, 97), (6, 223, 54), (6, 227, 55), (8, 117, 98), (8, 121, 99), (6, 230, 56), (5, 32, 57), (5, 46, 58), (5, 35, 60), (5, 72, 61), (5, 79, 218), (9, 335, 222), (5, 83, 219), (9, 492, 223), (5, 39, 63), (5, 97, 64), (5, 111, 66), (5, 126, 68), (5, 107, 69), (5, 114, 67), (5, 61, 220), (9, 633, 221), (9, 505, 218), (5, 104, 59), (5, 121, 65), (6, 239, 6), (8, 125, 100), (8, 129, 101), (8, 133, 102), (6, 255, 45), (8, 137, 103), (6, 260, 48), (8, 141, 104), (8, 145, 105), (8, 149, 106), (6, 270, 49), (8, 154, 107), (6, 285, 52), (6, 293, 46), (8, 158, 108), (8, 162, 109), (8, 166, 110), (8, 170, 111), (8, 174, 112), (8, 178, 113), (8, 182, 114), (8, 186, 115), (8, 17, 137), (7, 116, 136), (7, 106, 127), (8, 22, 138), (7, 120, 124), (7, 79, 126), (7, 123, 133), (7, 100, 131), (7, 83, 194), (7, 87, 130), (7, 93, 197), (7, 103, 132), (7, 126, 134), (7, 129, 135), (8, 26, 140), (8, 30, 141), (7, 137, 128), (8, 34, 142), (8, 38, 143), (8, 43, 145), (7, 140, 144), (8, 47, 146), (8, 51, 150), (7, 147, 149), (7, 143, 147), (7, 150, 148), (8, 55, 151), (8, 59, 153), (7, 154, 152), (8, 63, 154), (8, 67, 159), (7, 166, 158), (7, 163, 157), (7, 160, 156), (7, 157, 155), (8, 71, 164), (7, 170, 160), (7, 173, 161), (7, 176, 162), (8, 75, 167), (7, 183, 165), (7, 186, 166), (8, 79, 168), (8, 83, 169), (8, 87, 171), (7, 190, 170), (8, 91, 173), (7, 193, 172), (8, 95, 174), (8, 99, 175), (7, 196, 163), (8, 103, 176), (8, 108, 177), (8, 112, 178), (8, 116, 179), (8, 120, 180), (8, 124, 192), (7, 234, 183), (7, 222, 181), (7, 228, 182), (7, 265, 184), (7, 268, 190), (7, 255, 189), (7, 246, 185), (7, 252, 187), (7, 259, 191), (7, 262, 188), (8, 128, 193), (8, 132, 195), (8, 136, 200), (8, 140, 201), (8, 144, 202), (8, 148, 203), (8, 153, 204), (8, 157, 205), (8, 161, 206), (8, 165, 207), (8, 169, 208), (8, 173, 209), (8, 177, 210), (8, 181, 211), (8, 185, 212), (8, 189, 213)]
def ab_mlS : List (Nat × Nat × Nat) := [(6, 59, 0), (6, 65, 116), (6, 69, 13), (2, 140, 214), (1, 71, 11), (1, 75, 10), (2, 118, 14), (2, 48, 217), (2, 54, 216), (2, 124, 1), (2, 152, 2), (0, 15, 216), (6, 105, 1), (6, 127, 214), (6, 194, 117), (6, 212, 215), (5, 50, 217), (5, 68, 5), (9, 495, 226), (10, 9, 224), (9, 1059, 230), (5, 129, 4), (9, 637, 228), (10, 88, 227), (10, 92, 216), (10, 38, 217), (10, 95, 229), (9, 1062, 231), (5, 101, 62), (6, 267, 14), (6, 279, 118), (6, 304, 2), (7, 75, 120), (7, 110, 125), (7, 90, 123), (7, 271, 196), (7, 96, 121), (7, 132, 139), (7, 179, 122), (7, 199, 198), (7, 203, 129), (7, 240, 186), (7, 278, 199)]
def ab_mlI : List (Nat × Nat × Nat) := [(8, 9, 70), (6, 18, 12), (8, 12, 119)]
def ab_mlSN : List (Nat × Nat × Nat) := [(0, 9, 116), (2, 44, 116), (1, 44, 116), (5, 56, 116), (3, 28, 116)]
def ab_mlIN : List (Nat × Nat × Nat) := [(6, 9, 3), (6, 33, 53), (6, 44, 44), (6, 51, 51), (4, 9, 44)]
def ab_mlO : List (Nat × Nat) := [(6, 1), (1, 1), (2, 3), (5, 1), (3, 3), (4, 1), (7, 1)]
def ab_mlC : List (Nat × Nat) := [(2, 57), (1, 61), (6, 273), (3, 22)]
def ab_mk (T : List (Nat × Nat × Nat)) (o j : Nat) : Option Nat := (T.find? fun e => e.1 == o && e.2.1 == j).map fun e => e.2.2
def ab_kcT : List (Nat × Nat × Int32) := [(2, 43, -1000000005), (6, 72, -1000000001), (2, 85, -1000000003), (12, 265, 1431655765), (12, 266, 858993459), (12, 267, 252645135), (6, 109, -1000000012), (2, 96, 1103515245), (6, 180, -1000000005), (6, 190, 2147483647), (6, 200, -1000000011), (3, 32, -1000000005), (6, 226, -1000000003), (6, 259, -1000000014), (6, 261, -1000000013), (6, 265, -99999), (6, 266, 99999), (6, 307, -1000000002), (7, 114, -1000000001), (7, 115, -1000000003), (7, 136, -1000000012), (7, 153, 1103515245), (7, 189, -1000000005), (7, 202, -1000000011), (7, 274, -1000000014), (7, 275, -1000000013), (7, 276, -99999), (7, 277, 99999), (7, 281, -1000000002)]
def ab_kc (o j : Nat) : Option Int32 := (ab_kcT.find? fun e => e.1 == o && e.2.1 == j).map fun e => e.2.2
def ab_ksT : List (Nat × Nat × Nat) := [(1, 38, 0), (1, 40, 1), (1, 42, 2), (1, 32, 3), (1, 34, 4), (1, 36, 5), (5, 117, 6), (5, 119, 7), (5, 124, 8), (5, 87, 9), (5, 89, 10), (5, 91, 11), (5, 93, 12), (5, 95, 13)]
def ab_ks (o j : Nat) : Option Nat := ab_mk ab_ksT o j
def ab_tx : List String := ["bloom", "fee", "fine", "wdhn", "df", "wd", "!", "(", ")", "|", "&", "<=>", "+-", "*/"]
def ab_by : List (List Int32) := [[98, 108, 111, 111, 109], [102, 101, 101], [102, 105, 110, 101], [119, 100, 104, 110], [100, 102], [119, 100], [33], [40], [41], [124], [38], [60, 61, 62], [43, 45], [42, 47]]
def ab_ln : List Nat := [5, 3, 4, 4, 2, 2, 1, 1, 1, 1, 1, 3, 2, 2]
/-- classes that are made, by entries -/
def ab_klT : List (Nat × Nat × Nat) := [(8, 7, 6), (6, 7, 1), (6, 16, 2), (6, 31, 5), (6, 38, 3), (6, 45, 4), (4, 7, 3), (8, 10, 7)]
def ab_kl (o j : Nat) : Option Nat := ab_mk ab_klT o j
def ab_kq : Nat × Nat := (1, 21)
end
section
/-! what the tables' words give, checked once, by their places; written by wip/tools/gen_checks.py -/
def ab_U : List Cond := lw_tbl.filter goodWord
def ab_has (p : Nat) (w : Cond) : Bool := decide (lw_tbl[p]? = some w) && goodWord w
theorem ab_has_U {p : Nat} {w : Cond} (h : ab_has p w = true) : w ∈ ab_U := by
  unfold ab_has at h
  rw [Bool.and_eq_true, decide_eq_true_eq] at h
  exact List.mem_filter.mpr ⟨List.mem_of_getElem? h.1, h.2⟩
def ab_flP : List Nat := [91, 92, 93, 94, 95, 96, 97, 98, 120, 121, 122, 123, 124, 125, 126, 127, 128, 129, 130, 131, 132, 133, 134, 135, 136, 137, 138, 139, 140, 141, 142, 143, 144, 145, 146, 147, 148, 186, 187, 188, 189, 190, 191, 192, 193, 194, 195, 196, 197, 198, 199, 200, 201, 228, 229, 230, 231, 232, 233, 250, 251, 252, 253, 254, 255, 256, 257, 258, 259, 260, 274, 275, 276, 277, 278, 279, 280, 281, 282, 283, 284, 927, 928, 929, 930, 931, 932, 933, 934, 935, 936, 937, 938, 939, 940, 941, 942, 943, 944, 945, 946, 947, 948, 949, 950, 951, 952, 953, 954, 955, 956, 957, 958, 959]
theorem ab_flP_n : ab_flT.length = ab_flP.length := by decide +kernel
def ab_ckF (q : (Nat × Nat × Nat × Nat) × Nat) : Bool := ab_has q.2 (.fieldLink (ab_R q.1.1) q.1.2.1 (ab_R q.1.2.2.1) (ab_T q.1.2.2.1 q.1.2.2.2).2.1 (ab_T q.1.2.2.1 q.1.2.2.2).2.2.1) && decide ((ab_T q.1.2.2.1 q.1.2.2.2).1 = ab_R q.1.2.2.1) && decide (q.1.2.2.2 < ab_N q.1.2.2.1) && decide (q.1.2.2.1 < 8)
set_option maxRecDepth 100000 in
theorem ab_ckF_ok : (ab_flT.zip ab_flP).all ab_ckF = true := by decide +kernel
theorem ab_zip {α β : Type} {T : List α} {P : List β} (hn : T.length = P.length) {e : α} (h : e ∈ T) : ∃ p, (e, p) ∈ T.zip P := by
  obtain ⟨i, hi, rfl⟩ := List.getElem_of_mem h
  exact ⟨P[i]'(by omega), List.mem_iff_getElem.mpr ⟨i, by rw [List.length_zip]; omega, by rw [List.getElem_zip]⟩⟩
theorem ab_mk_mem {T : List (Nat × Nat × Nat)} {o j k : Nat} (h : ab_mk T o j = some k) : (o, j, k) ∈ T := by
  unfold ab_mk at h
  obtain ⟨e, h1, rfl⟩ := Option.map_eq_some_iff.mp h
  have h2 := List.find?_some h1
  simp only [Bool.and_eq_true, beq_iff_eq] at h2
  have h3 := List.mem_of_find?_eq_some h1
  rw [← h2.1, ← h2.2]
  exact h3
theorem ab_okF {o j ci fi : Nat} (h : ab_fl o j = some (ci, fi)) : Cond.fieldLink (ab_R o) j (ab_R ci) (ab_T ci fi).2.1 (ab_T ci fi).2.2.1 ∈ ab_U ∧ (ab_T ci fi).1 = ab_R ci ∧ fi < ab_N ci ∧ ci < 8 := by
  unfold ab_fl at h
  obtain ⟨e, h1, h4⟩ := Option.map_eq_some_iff.mp h
  have h2 := List.find?_some h1
  simp only [Bool.and_eq_true, beq_iff_eq] at h2
  have h3 := List.mem_of_find?_eq_some h1
  obtain ⟨p, hp⟩ := ab_zip ab_flP_n h3
  have h5 := List.all_eq_true.mp ab_ckF_ok _ hp
  obtain ⟨e1, e2, e3, e4⟩ := e
  cases h4
  obtain ⟨rfl, rfl⟩ := h2
  unfold ab_ckF at h5
  simp only [Bool.and_eq_true, decide_eq_true_eq] at h5
  exact ⟨ab_has_U h5.1.1.1, h5.1.1.2, h5.1.2, h5.2⟩
def ab_wsT : List (Nat × Nat × Nat) := [(1, 0, 99), (1, 1, 101), (1, 2, 103), (1, 3, 105), (1, 4, 107), (1, 5, 109), (2, 0, 149), (2, 1, 151), (2, 2, 153), (2, 3, 155), (2, 4, 157), (2, 5, 159), (2, 6, 161), (2, 7, 163), (2, 8, 165), (2, 9, 167), (2, 10, 169), (2, 11, 171), (2, 12, 173), (2, 13, 175), (2, 14, 177), (3, 0, 234), (3, 1, 236), (3, 2, 238), (4, 0, 261), (4, 1, 263), (4, 2, 265), (4, 3, 267), (4, 4, 269), (4, 5, 271), (5, 0, 202), (5, 1, 204), (5, 2, 206), (5, 3, 208), (5, 4, 210), (5, 5, 212), (5, 6, 214), (5, 7, 216), (5, 8, 218), (6, 0, 285), (6, 1, 287), (6, 2, 289), (6, 3, 291), (6, 4, 293), (6, 5, 295), (6, 6, 297), (6, 7, 299), (6, 8, 301), (6, 9, 303), (6, 10, 305), (7, 0, 960), (7, 1, 962), (7, 2, 964), (7, 3, 966), (7, 4, 968), (7, 5, 970), (7, 6, 972), (7, 7, 974), (7, 8, 976), (7, 9, 978), (7, 10, 980), (7, 11, 982), (7, 12, 984), (7, 13, 986), (7, 14, 988), (7, 15, 990), (7, 16, 992), (7, 17, 994), (7, 18, 996), (7, 19, 998), (7, 20, 1000), (7, 21, 1002), (7, 22, 1004), (7, 23, 1006), (7, 24, 1008), (7, 25, 1010), (7, 26, 1012), (7, 27, 1014), (7, 28, 1016), (7, 29, 1018), (7, 30, 1020), (7, 31, 1022), (7, 32, 1024)]
set_option maxRecDepth 100000 in
theorem ab_wsT_ok : ab_wsT.all (fun q => ab_has q.2.2 (u_lay (ab_R q.1) (ab_T q.1) q.2.1)) = true := by decide +kernel
theorem ab_wsT_all : ∀ c, c < 8 → ∀ k, k < ab_N c → ∃ p, (c, k, p) ∈ ab_wsT := by
  have h : (List.range 8).all (fun c => (List.range (ab_N c)).all fun k => ab_wsT.any fun q => q.1 == c && q.2.1 == k) = true := by decide +kernel
  intro c hc k hk
  have h1 := List.all_eq_true.mp (List.all_eq_true.mp h c (List.mem_range.mpr hc)) k (List.mem_range.mpr hk)
  obtain ⟨q, hq, h2⟩ := List.any_eq_true.mp h1
  simp only [Bool.and_eq_true, beq_iff_eq] at h2
  exact ⟨q.2.2, by rw [← h2.1, ← h2.2]; exact hq⟩
theorem ab_okW {c : Nat} (hc : c < 8) : ∀ w ∈ u_ws (ab_R c) (ab_T c) (ab_N c), w ∈ ab_U := by
  intro w hw
  unfold u_ws at hw
  obtain ⟨k, hk, rfl⟩ := List.mem_map.mp hw
  obtain ⟨p, hp⟩ := ab_wsT_all c hc k (List.mem_range.mp hk)
  exact ab_has_U (List.all_eq_true.mp ab_wsT_ok _ hp)
def ab_msP : List Nat := [66, 66, 66, 60, 60, 60, 60, 60, 60, 60, 60, 60, 61, 61, 61, 61, 61, 61, 61, 61, 61, 61, 61, 61, 61, 61, 61, 61, 61, 61, 61, 61, 61, 61, 61, 61, 61, 61, 61, 61, 61, 61, 61, 61, 63, 63, 63, 63, 63, 63, 63, 64, 64, 62, 62, 62, 62, 62, 62, 62, 62, 62, 62, 62, 62, 62, 62, 62, 62, 62, 59, 59, 59, 59, 59, 59, 59, 59, 59, 59, 59, 59, 59, 59, 59, 59, 59, 59, 59, 59, 59, 59, 59, 59, 59, 59, 59, 59, 59, 59, 59, 59, 59, 59, 59, 59, 59, 59, 59, 59, 59, 59, 59, 59, 59, 59, 59, 59, 59, 65, 65, 65, 65, 65, 65, 65, 65, 65, 65, 65, 65, 65, 65, 65, 65, 65, 65, 65, 65, 65, 65, 65, 65, 65, 65, 65, 65, 65, 65, 65, 65, 65, 65, 65, 65, 65, 65, 65, 65, 65, 65, 65, 65, 65, 65, 65, 65, 65, 65, 65, 65, 65, 65, 65, 65, 65, 65, 65, 65, 65, 65, 65, 65, 65, 65, 65, 65, 65, 65, 65, 65, 65, 65, 65, 65, 65, 65, 65, 65, 65, 65, 65, 65, 65, 65, 65, 65, 65, 65, 65, 65, 65, 65, 65, 67, 68, 68, 68, 70, 70, 70, 70, 70, 70, 70, 70, 71, 71, 71, 71, 72, 72]
def ab_isCd (w : Cond) (y : MethodName) (n : Nat) (r : Option FieldType) : Bool := match w with
  | .code y' _ n' r' => decide (y' = y) && decide (n' = n) && decide (r' = r)
  | _ => false
theorem ab_isCd_e {w : Cond} {y : MethodName} {n : Nat} {r : Option FieldType} (h : ab_isCd w y n r = true) : w = .code y (ab_cb w) n r := by
  unfold ab_isCd at h
  split at h
  · simp only [Bool.and_eq_true, decide_eq_true_eq] at h
    obtain ⟨⟨rfl, rfl⟩, rfl⟩ := h
    rfl
  · cases h
def ab_ckM (k : Nat) (p : Nat) : Bool := ab_isCd (ab_cd k) (ab_Y k) (ab_mL k) (ab_rt k) && ab_has p (.initialized (ab_Y k).cls) && plainFor (ab_Y k) && decide ((ab_Y k).cls ≠ "java/lang/invoke/MethodHandle" ∧ (ab_Y k).cls ≠ "java/lang/invoke/VarHandle" ∧ (parseMethodDescriptor (ab_Y k).desc).map (fun d => d.parameters.length) = some (ab_np k)) && decide ((ab_Y k).cls = ab_R (ab_own k)) && decide (ab_mL k ≤ 20)
set_option maxRecDepth 100000 in
theorem ab_ckM_0 : ((List.range 58).drop 0).all (fun k => ab_ckM k (ab_msP.getD k 0)) = true := by decide +kernel
set_option maxRecDepth 100000 in
theorem ab_ckM_58 : ((List.range 116).drop 58).all (fun k => ab_ckM k (ab_msP.getD k 0)) = true := by decide +kernel
set_option maxRecDepth 100000 in
theorem ab_ckM_116 : ((List.range 174).drop 116).all (fun k => ab_ckM k (ab_msP.getD k 0)) = true := by decide +kernel
set_option maxRecDepth 100000 in
theorem ab_ckM_174 : ((List.range 232).drop 174).all (fun k => ab_ckM k (ab_msP.getD k 0)) = true := by decide +kernel
theorem ab_ckM_all {k : Nat} (h : k < ab_nM) : ab_ckM k (ab_msP.getD k 0) = true := by
  have h : k < 232 := h
  by_cases h0 : k < 58
  · exact List.all_eq_true.mp ab_ckM_0 k (List.mem_iff_getElem.mpr ⟨k - 0, by rw [List.length_drop, List.length_range]; omega, by rw [List.getElem_drop, List.getElem_range]; omega⟩)
  by_cases h58 : k < 116
  · exact List.all_eq_true.mp ab_ckM_58 k (List.mem_iff_getElem.mpr ⟨k - 58, by rw [List.length_drop, List.length_range]; omega, by rw [List.getElem_drop, List.getElem_range]; omega⟩)
  by_cases h116 : k < 174
  · exact List.all_eq_true.mp ab_ckM_116 k (List.mem_iff_getElem.mpr ⟨k - 116, by rw [List.length_drop, List.length_range]; omega, by rw [List.getElem_drop, List.getElem_range]; omega⟩)
  by_cases h174 : k < 232
  · exact List.all_eq_true.mp ab_ckM_174 k (List.mem_iff_getElem.mpr ⟨k - 174, by rw [List.length_drop, List.length_range]; omega, by rw [List.getElem_drop, List.getElem_range]; omega⟩)
  omega
theorem ab_cd_mem {k : Nat} {y : MethodName} {n : Nat} {r : Option FieldType} (h : ab_isCd (ab_cd k) y n r = true) : Cond.code y (ab_cb (ab_cd k)) n r ∈ ab_U := by
  have e := ab_isCd_e h
  have h1 : ab_cd k ∈ lw_tbl := by
    unfold ab_cd at h ⊢
    rw [List.getD_eq_getElem?_getD] at h ⊢
    cases hq : lw_tbl[ab_cp.getD k 0]? with
    | none => rw [hq] at h; cases h
    | some w => rw [Option.getD_some]; exact List.mem_of_getElem? hq
  rw [e] at h1
  exact List.mem_filter.mpr ⟨h1, rfl⟩
theorem ab_okM {k : Nat} (h : k < ab_nM) : Cond.code (ab_Y k) (ab_B k) (ab_mL k) (ab_rt k) ∈ ab_U ∧ Cond.initialized (ab_Y k).cls ∈ ab_U ∧ plainFor (ab_Y k) = true ∧ ((ab_Y k).cls ≠ "java/lang/invoke/MethodHandle" ∧ (ab_Y k).cls ≠ "java/lang/invoke/VarHandle" ∧ (parseMethodDescriptor (ab_Y k).desc).map (fun d => d.parameters.length) = some (ab_np k)) ∧ (ab_Y k).cls = ab_R (ab_own k) ∧ ab_mL k ≤ 20 := by
  have h5 := ab_ckM_all h
  unfold ab_ckM at h5
  simp only [Bool.and_eq_true, decide_eq_true_eq] at h5
  refine ⟨?_, ab_has_U h5.1.1.1.1.2, h5.1.1.1.2, h5.1.1.2, h5.1.2, h5.2⟩
  unfold ab_B
  rw [if_neg (Nat.ne_of_lt h)]
  exact ab_cd_mem h5.1.1.1.1.1
def ab_mlVP : List (Nat × Nat × Nat) := [(308, 309, 310), (324, 325, 326), (328, 329, 330), (333, 334, 335), (337, 338, 339), (341, 342, 343), (345, 347, 0), (349, 351, 1), (353, 354, 355), (363, 364, 365), (367, 368, 369), (372, 374, 2), (391, 393, 3), (398, 399, 400), (402, 403, 404), (410, 411, 412), (416, 417, 418), (420, 421, 422), (424, 425, 426), (428, 429, 430), (432, 433, 434), (436, 437, 438), (440, 441, 442), (444, 354, 355), (445, 446, 447), (449, 403, 404), (450, 451, 452), (454, 455, 456), (459, 460, 461), (463, 399, 400), (464, 465, 466), (468, 469, 470), (472, 329, 330), (473, 474, 475), (477, 478, 479), (482, 325, 326), (483, 484, 485), (487, 488, 489), (491, 492, 493), (495, 496, 497), (499, 433, 434), (500, 342, 343), (501, 460, 461), (502, 503, 504), (506, 507, 508), (510, 511, 512), (514, 515, 516), (518, 519, 520), (522, 523, 524), (526, 527, 528), (533, 534, 535), (537, 492, 493), (538, 539, 540), (542, 455, 456), (544, 545, 546), (548, 549, 550), (552, 554, 4), (556, 557, 558), (560, 561, 562), (564, 565, 566), (569, 570, 571), (573, 574, 575), (577, 578, 579), (584, 585, 586), (589, 591, 5), (593, 594, 595), (601, 602, 603), (605, 606, 607), (609, 610, 611), (613, 614, 615), (617, 618, 619), (621, 622, 623), (626, 627, 628), (630, 631, 632), (634, 635, 636), (638, 639, 640), (642, 644, 6), (646, 648, 7), (652, 654, 8), (662, 664, 9), (666, 667, 668), (670, 671, 672), (676, 677, 678), (680, 681, 682), (714, 716, 10), (718, 720, 11), (722, 724, 12), (726, 728, 13), (730, 732, 14), (734, 736, 15), (744, 745, 746), (748, 749, 750), (752, 667, 668), (800, 802, 16), (805, 807, 17), (818, 819, 820), (824, 825, 826), (828, 829, 830), (832, 833, 834), (836, 837, 838), (841, 842, 843), (845, 846, 847), (853, 854, 855), (858, 859, 860), (862, 863, 864), (866, 867, 868), (871, 872, 873), (878, 879, 880), (882, 883, 884), (887, 888, 889), (892, 893, 894), (896, 897, 898), (901, 902, 903), (905, 906, 907), (909, 910, 911), (913, 914, 915), (917, 918, 919), (1029, 1030, 1031), (1041, 1043, 18), (1045, 1047, 19), (1049, 1050, 1051), (1053, 1055, 20), (1057, 1059, 21), (1061, 1063, 22), (1065, 1067, 23), (1069, 1071, 24), (1073, 1075, 25), (1080, 1082, 26), (1090, 1092, 27), (1094, 1096, 28), (1098, 1100, 29), (1102, 1103, 1104), (1110, 1111, 1112), (1114, 1116, 30), (1118, 1119, 1120), (1122, 1123, 1124), (1126, 1127, 1128), (1130, 1132, 31), (1134, 1135, 1136), (1138, 1139, 1140), (1142, 1144, 32), (1146, 1148, 33), (1150, 1152, 34), (1154, 1155, 1156), (1158, 1159, 1160), (1162, 1164, 35), (1167, 1168, 1169), (1171, 1172, 1173), (1175, 1177, 36), (1179, 1181, 37), (1183, 1185, 38), (1187, 1189, 39), (1191, 1192, 1193), (1195, 1197, 40), (1199, 1201, 41), (1203, 1205, 42), (1207, 1208, 1209), (1211, 1213, 43), (1218, 1220, 44), (1222, 1223, 1224), (1227, 1228, 1229), (1231, 1232, 1233), (1235, 1237, 45), (1239, 1240, 1241), (1243, 1245, 46), (1247, 1248, 1249), (1251, 1252, 1253), (1255, 1257, 47), (1259, 1260, 1261), (1270, 1271, 1272), (1274, 1275, 1276), (1278, 1279, 1280), (1282, 1283, 1284), (1286, 1287, 1288), (1290, 1292, 48), (1294, 1296, 49), (1298, 1300, 50), (1302, 1304, 51), (1306, 1308, 52), (1310, 1312, 53), (1314, 1316, 54), (1318, 1320, 55), (1325, 1327, 56), (1329, 1331, 57), (1333, 1334, 1335), (1337, 1338, 1339), (1341, 1342, 1343), (1346, 1347, 1348), (1353, 1354, 1355), (1357, 1358, 1359), (1361, 1362, 1363), (1365, 1366, 1367), (1372, 1373, 1374), (1376, 1377, 1378), (1380, 1381, 1382), (1385, 1386, 1387), (1389, 1390, 1391), (1393, 1394, 1395), (1397, 1398, 1399), (1401, 1402, 1403)]
theorem ab_mlVP_n : ab_mlV.length = ab_mlVP.length := by decide +kernel
def ab_ckmlV (q : (Nat × Nat × Nat) × Nat × Nat × Nat) : Bool := ab_has q.2.1 (.methodLink (ab_R q.1.1) q.1.2.1 (ab_Y q.1.2.2)) && ab_has q.2.2.1 (.instanceMethod (ab_Y q.1.2.2)) && ab_has q.2.2.2 (.selects (ab_Y q.1.2.2).cls (ab_Y q.1.2.2) (ab_Y q.1.2.2)) && decide (q.1.2.2 < ab_nM)
set_option maxRecDepth 100000 in
theorem ab_ckmlV_0 : (((ab_mlV.zip ab_mlVP).drop 0).take 70).all ab_ckmlV = true := by decide +kernel
set_option maxRecDepth 100000 in
theorem ab_ckmlV_70 : (((ab_mlV.zip ab_mlVP).drop 70).take 70).all ab_ckmlV = true := by decide +kernel
set_option maxRecDepth 100000 in
theorem ab_ckmlV_140 : (((ab_mlV.zip ab_mlVP).drop 140).take 70).all ab_ckmlV = true := by decide +kernel
theorem ab_ckmlV_ok : (ab_mlV.zip ab_mlVP).all ab_ckmlV = true := by
  have e : ab_mlV.zip ab_mlVP = ((ab_mlV.zip ab_mlVP).drop 0).take 70 ++ (((ab_mlV.zip ab_mlVP).drop 70).take 70 ++ (((ab_mlV.zip ab_mlVP).drop 140).take 70)) := by decide +kernel
  rw [e]; simp only [List.all_append, ab_ckmlV_0, ab_ckmlV_70, ab_ckmlV_140, Bool.and_self]
theorem ab_okmlV {o j k : Nat} (h : (o, j, k) ∈ ab_mlV) : Cond.methodLink (ab_R o) j (ab_Y k) ∈ ab_U ∧ Cond.instanceMethod (ab_Y k) ∈ ab_U ∧ Cond.selects (ab_Y k).cls (ab_Y k) (ab_Y k) ∈ ab_U ∧ k < ab_nM := by
  obtain ⟨p, hp⟩ := ab_zip ab_mlVP_n h
  have h5 := List.all_eq_true.mp ab_ckmlV_ok _ hp
  unfold ab_ckmlV at h5
  simp only [Bool.and_eq_true, decide_eq_true_eq] at h5
  exact ⟨ab_has_U h5.1.1.1, ab_has_U h5.1.1.2, ab_has_U h5.1.2, h5.2⟩
def ab_mlSP : List (Nat × Nat) := [(312, 313), (318, 316), (319, 320), (357, 358), (376, 377), (379, 380), (382, 383), (385, 386), (388, 389), (395, 396), (406, 407), (409, 389), (414, 396), (458, 358), (581, 582), (598, 599), (651, 386), (656, 657), (684, 685), (687, 688), (692, 693), (738, 739), (753, 754), (756, 757), (759, 389), (760, 386), (761, 762), (779, 780), (810, 811), (857, 383), (875, 876), (891, 407), (1033, 1034), (1036, 1037), (1077, 1078), (1084, 1085), (1087, 1088), (1106, 1107), (1215, 1216), (1263, 1264), (1267, 1268), (1322, 1323), (1369, 1370)]
theorem ab_mlSP_n : ab_mlS.length = ab_mlSP.length := by decide +kernel
def ab_ckmlS (q : (Nat × Nat × Nat) × Nat × Nat) : Bool := ab_has q.2.1 (.methodLink (ab_R q.1.1) q.1.2.1 (ab_Y q.1.2.2)) && ab_has q.2.2 (.static (ab_Y q.1.2.2)) && decide (q.1.2.2 < ab_nM)
set_option maxRecDepth 100000 in
theorem ab_ckmlS_0 : (((ab_mlS.zip ab_mlSP).drop 0).take 70).all ab_ckmlS = true := by decide +kernel
theorem ab_ckmlS_ok : (ab_mlS.zip ab_mlSP).all ab_ckmlS = true := by
  have e : ab_mlS.zip ab_mlSP = ((ab_mlS.zip ab_mlSP).drop 0).take 70 := by decide +kernel
  rw [e]; simp only [List.all_append, ab_ckmlS_0, Bool.and_self]
theorem ab_okmlS {o j k : Nat} (h : (o, j, k) ∈ ab_mlS) : Cond.methodLink (ab_R o) j (ab_Y k) ∈ ab_U ∧ Cond.static (ab_Y k) ∈ ab_U ∧ k < ab_nM := by
  obtain ⟨p, hp⟩ := ab_zip ab_mlSP_n h
  have h5 := List.all_eq_true.mp ab_ckmlS_ok _ hp
  unfold ab_ckmlS at h5
  simp only [Bool.and_eq_true, decide_eq_true_eq] at h5
  exact ⟨ab_has_U h5.1.1, ab_has_U h5.1.2, h5.2⟩
def ab_mlSNP : List (Nat) := [316, 316, 316, 316, 316]
theorem ab_mlSNP_n : ab_mlSN.length = ab_mlSNP.length := by decide +kernel
def ab_ckmlSN (q : (Nat × Nat × Nat) × Nat) : Bool := ab_has q.2 (.static (ab_Y q.1.2.2)) && decide (q.1.2.2 < ab_nM)
set_option maxRecDepth 100000 in
theorem ab_ckmlSN_0 : (((ab_mlSN.zip ab_mlSNP).drop 0).take 70).all ab_ckmlSN = true := by decide +kernel
theorem ab_ckmlSN_ok : (ab_mlSN.zip ab_mlSNP).all ab_ckmlSN = true := by
  have e : ab_mlSN.zip ab_mlSNP = ((ab_mlSN.zip ab_mlSNP).drop 0).take 70 := by decide +kernel
  rw [e]; simp only [List.all_append, ab_ckmlSN_0, Bool.and_self]
theorem ab_okmlSN {o j k : Nat} (h : (o, j, k) ∈ ab_mlSN) : Cond.static (ab_Y k) ∈ ab_U ∧ k < ab_nM := by
  obtain ⟨p, hp⟩ := ab_zip ab_mlSNP_n h
  have h5 := List.all_eq_true.mp ab_ckmlSN_ok _ hp
  unfold ab_ckmlSN at h5
  simp only [Bool.and_eq_true, decide_eq_true_eq] at h5
  exact ⟨ab_has_U h5.1, h5.2⟩
def ab_mlIP : List (Nat × Nat) := [(77, 78), (115, 116), (923, 924)]
theorem ab_mlIP_n : ab_mlI.length = ab_mlIP.length := by decide +kernel
def ab_ckmlI (q : (Nat × Nat × Nat) × Nat × Nat) : Bool := ab_has q.2.1 (.methodLink (ab_R q.1.1) q.1.2.1 (ab_Y q.1.2.2)) && ab_has q.2.2 (.instanceMethod (ab_Y q.1.2.2)) && decide (q.1.2.2 < ab_nM) && decide ((ab_Y q.1.2.2).name = "<init>") && decide (ab_rt q.1.2.2 = none)
set_option maxRecDepth 100000 in
theorem ab_ckmlI_0 : (((ab_mlI.zip ab_mlIP).drop 0).take 70).all ab_ckmlI = true := by decide +kernel
theorem ab_ckmlI_ok : (ab_mlI.zip ab_mlIP).all ab_ckmlI = true := by
  have e : ab_mlI.zip ab_mlIP = ((ab_mlI.zip ab_mlIP).drop 0).take 70 := by decide +kernel
  rw [e]; simp only [List.all_append, ab_ckmlI_0, Bool.and_self]
theorem ab_okmlI {o j k : Nat} (h : (o, j, k) ∈ ab_mlI) : Cond.methodLink (ab_R o) j (ab_Y k) ∈ ab_U ∧ Cond.instanceMethod (ab_Y k) ∈ ab_U ∧ k < ab_nM ∧ (ab_Y k).name = "<init>" ∧ ab_rt k = none := by
  obtain ⟨p, hp⟩ := ab_zip ab_mlIP_n h
  have h5 := List.all_eq_true.mp ab_ckmlI_ok _ hp
  unfold ab_ckmlI at h5
  simp only [Bool.and_eq_true, decide_eq_true_eq] at h5
  exact ⟨ab_has_U h5.1.1.1.1, ab_has_U h5.1.1.1.2, h5.1.1.2, h5.1.2, h5.2⟩
def ab_mlINP : List (Nat) := [86, 183, 225, 245, 225]
theorem ab_mlINP_n : ab_mlIN.length = ab_mlINP.length := by decide +kernel
def ab_ckmlIN (q : (Nat × Nat × Nat) × Nat) : Bool := ab_has q.2 (.instanceMethod (ab_Y q.1.2.2)) && decide (q.1.2.2 < ab_nM) && decide ((ab_Y q.1.2.2).name = "<init>") && decide (ab_rt q.1.2.2 = none)
set_option maxRecDepth 100000 in
theorem ab_ckmlIN_0 : (((ab_mlIN.zip ab_mlINP).drop 0).take 70).all ab_ckmlIN = true := by decide +kernel
theorem ab_ckmlIN_ok : (ab_mlIN.zip ab_mlINP).all ab_ckmlIN = true := by
  have e : ab_mlIN.zip ab_mlINP = ((ab_mlIN.zip ab_mlINP).drop 0).take 70 := by decide +kernel
  rw [e]; simp only [List.all_append, ab_ckmlIN_0, Bool.and_self]
theorem ab_okmlIN {o j k : Nat} (h : (o, j, k) ∈ ab_mlIN) : Cond.instanceMethod (ab_Y k) ∈ ab_U ∧ k < ab_nM ∧ (ab_Y k).name = "<init>" ∧ ab_rt k = none := by
  obtain ⟨p, hp⟩ := ab_zip ab_mlINP_n h
  have h5 := List.all_eq_true.mp ab_ckmlIN_ok _ hp
  unfold ab_ckmlIN at h5
  simp only [Bool.and_eq_true, decide_eq_true_eq] at h5
  exact ⟨ab_has_U h5.1.1.1, h5.1.1.2, h5.1.2, h5.2⟩
def ab_klTP : List (Nat × Nat × Nat) := [(75, 76, 59), (83, 84, 60), (113, 114, 61), (180, 181, 62), (221, 223, 63), (241, 243, 64), (248, 223, 63), (921, 922, 65)]
theorem ab_klTP_n : ab_klT.length = ab_klTP.length := by decide +kernel
def ab_ckklT (q : (Nat × Nat × Nat) × Nat × Nat × Nat) : Bool := ab_has q.2.1 (.classLink (ab_R q.1.1) q.1.2.1 (ab_R q.1.2.2)) && ab_has q.2.2.1 (.instantiable (ab_R q.1.2.2) (ab_N q.1.2.2)) && ab_has q.2.2.2 (.initialized (ab_R q.1.2.2)) && decide (q.1.2.2 < 8)
set_option maxRecDepth 100000 in
theorem ab_ckklT_0 : (((ab_klT.zip ab_klTP).drop 0).take 70).all ab_ckklT = true := by decide +kernel
theorem ab_ckklT_ok : (ab_klT.zip ab_klTP).all ab_ckklT = true := by
  have e : ab_klT.zip ab_klTP = ((ab_klT.zip ab_klTP).drop 0).take 70 := by decide +kernel
  rw [e]; simp only [List.all_append, ab_ckklT_0, Bool.and_self]
theorem ab_okklT {o j k : Nat} (h : (o, j, k) ∈ ab_klT) : Cond.classLink (ab_R o) j (ab_R k) ∈ ab_U ∧ Cond.instantiable (ab_R k) (ab_N k) ∈ ab_U ∧ Cond.initialized (ab_R k) ∈ ab_U ∧ k < 8 := by
  obtain ⟨p, hp⟩ := ab_zip ab_klTP_n h
  have h5 := List.all_eq_true.mp ab_ckklT_ok _ hp
  unfold ab_ckklT at h5
  simp only [Bool.and_eq_true, decide_eq_true_eq] at h5
  exact ⟨ab_has_U h5.1.1.1, ab_has_U h5.1.1.2, ab_has_U h5.1.2, h5.2⟩
def ab_kcP : List Nat := [119, 323, 332, 360, 361, 362, 415, 481, 543, 568, 588, 597, 625, 840, 850, 851, 852, 900, 1039, 1040, 1109, 1166, 1226, 1266, 1345, 1350, 1351, 1352, 1384]
theorem ab_kcP_n : ab_kcT.length = ab_kcP.length := by decide +kernel
set_option maxRecDepth 100000 in
theorem ab_ckK_ok : (ab_kcT.zip ab_kcP).all (fun q => ab_has q.2 (.constant (ab_R q.1.1) q.1.2.1 q.1.2.2)) = true := by decide +kernel
theorem ab_okK {o j : Nat} {v : Int32} (h : ab_kc o j = some v) : Cond.constant (ab_R o) j v ∈ ab_U := by
  unfold ab_kc at h
  obtain ⟨e, h1, rfl⟩ := Option.map_eq_some_iff.mp h
  have h2 := List.find?_some h1
  simp only [Bool.and_eq_true, beq_iff_eq] at h2
  obtain ⟨p, hp⟩ := ab_zip ab_kcP_n (List.mem_of_find?_eq_some h1)
  have h5 := List.all_eq_true.mp ab_ckK_ok _ hp
  rw [← h2.1, ← h2.2]
  exact ab_has_U h5
def ab_mlOP : List Nat := [80, 88, 118, 185, 227, 247, 926]
def ab_mlCP : List Nat := [530, 822, 870, 886]
theorem ab_mlOP_n : ab_mlO.length = ab_mlOP.length := by decide +kernel
theorem ab_mlCP_n : ab_mlC.length = ab_mlCP.length := by decide +kernel
theorem ab_ckO_ok : (ab_mlO.zip ab_mlOP).all (fun q => ab_has q.2 (.methodLink (ab_R q.1.1) q.1.2 Lib.objectInit)) = true := by decide +kernel
theorem ab_ckC_ok : (ab_mlC.zip ab_mlCP).all (fun q => ab_has q.2 (.methodLink (ab_R q.1.1) q.1.2 arraycopyName)) = true := by decide +kernel
theorem ab_okO {o j : Nat} (h : (o, j) ∈ ab_mlO) : Cond.methodLink (ab_R o) j Lib.objectInit ∈ ab_U := by
  obtain ⟨p, hp⟩ := ab_zip ab_mlOP_n h
  exact ab_has_U (List.all_eq_true.mp ab_ckO_ok _ hp)
theorem ab_okC {o j : Nat} (h : (o, j) ∈ ab_mlC) : Cond.methodLink (ab_R o) j arraycopyName ∈ ab_U := by
  obtain ⟨p, hp⟩ := ab_zip ab_mlCP_n h
  exact ab_has_U (List.all_eq_true.mp ab_ckC_ok _ hp)
theorem ab_oO1 : Cond.instanceMethod Lib.objectInit ∈ ab_U := ab_has_U (p := 81) (by decide +kernel)
theorem ab_oO2 : Cond.code Lib.objectInit ⟨#[0xb1]⟩ 1 none ∈ ab_U := ab_has_U (p := 82) (by decide +kernel)
theorem ab_oC1 : Cond.native arraycopyName ∈ ab_U := ab_has_U (p := 532) (by decide +kernel)
theorem ab_oC2 : Cond.static arraycopyName ∈ ab_U := ab_has_U (p := 531) (by decide +kernel)
theorem ab_oC3 : Cond.initialized "java/lang/System" ∈ ab_U := ab_has_U (p := 69) (by decide +kernel)
theorem ab_oA_int : Cond.arrayClass .int ∈ ab_U := ab_has_U (p := 112) (by decide +kernel)
theorem ab_oA_boolean : Cond.arrayClass .boolean ∈ ab_U := ab_has_U (p := 1028) (by decide +kernel)
theorem ab_oA_char : Cond.arrayClass .char ∈ ab_U := ab_has_U (p := 1027) (by decide +kernel)
theorem ab_oS1 : Cond.fieldLink RJ0 ab_fsV "java/lang/String" "value" "[B" ∈ ab_U := ab_has_U (p := 1405) (by decide +kernel)
theorem ab_oS2 : Cond.fieldLink RJ0 ab_fsC "java/lang/String" "coder" "B" ∈ ab_U := ab_has_U (p := 1406) (by decide +kernel)
theorem ab_oS3 : Cond.fieldLink RJ0 ab_sfZ "java/lang/String" "COMPACT_STRINGS" "Z" ∈ ab_U := ab_has_U (p := 674) (by decide +kernel)
theorem ab_oS4 : Cond.fieldLink RJ0 ab_sfF "jdk/internal/util/Preconditions" "SIOOBE_FORMATTER" "Ljava/util/function/BiFunction;" ∈ ab_U := ab_has_U (p := 690) (by decide +kernel)
theorem ab_oQ : Cond.classLink (ab_R ab_kq.1) ab_kq.2 "[[I" ∈ ab_U := ab_has_U (p := 89) (by decide +kernel)
end
section
set_option maxRecDepth 100000 in
theorem bB1 : ab_cd m_X2_has = .code yX2_has cX2_has 2 (some .boolean) := by rfl
set_option maxRecDepth 100000 in
theorem bB2 : ab_cd m_X7_count = .code yX7_count cX7_count 2 (some .int) := by rfl
end
