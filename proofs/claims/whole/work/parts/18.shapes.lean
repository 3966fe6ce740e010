/-! THE SHAPES behind the two constructors (wip/tools/gen_shapes.py), and facts of methods and links -/
def ab_S0_0 : List ab_C := [(0, 6, [.ref 1, .ref 22, .ref 30, .ref 38, .ref 46, .ref 49, .ref 58, .ref 74, .ref 75, .int 0, .int 0]), (0, 1, [.ref 2, .ref 3, .ref 4, .ref 5, .ref 20, .ref 21]), (1, 14, []), (1, 14, []), (1, 14, []), (5, 14, [.ref 6, .ref 7, .ref 8, .ref 9, .ref 10, .ref 11, .ref 12, .ref 13, .ref 14, .ref 15, .ref 16, .ref 17, .ref 18, .ref 19]), (1, 96, []), (1, 96, []), (1, 96, []), (1, 96, []), (1, 96, []), (1, 96, []), (1, 96, []), (1, 96, []), (1, 96, []), (1, 96, []), (1, 96, []), (1, 96, []), (1, 96, []), (1, 96, []), (1, 4, []), (1, 96, []), (0, 2, [.ref 1, .ref 23, .ref 24, .ref 25, .ref 26, .ref 27, .ref 28, .ref 29, .int 0, .int 0, .int 0, .int 0, .int 0, .int 0, .int 0]), (1, 10, []), (1, 10, [])]
def ab_S0_1 : List ab_C := [(1, 10, []), (1, 10, []), (1, 10, []), (1, 6, []), (1, 3, []), (0, 2, [.ref 1, .ref 31, .ref 32, .ref 33, .ref 34, .ref 35, .ref 36, .ref 37, .int 0, .int 0, .int 0, .int 0, .int 0, .int 0, .int 0]), (1, 10, []), (1, 10, []), (1, 10, []), (1, 10, []), (1, 10, []), (1, 6, []), (1, 3, []), (0, 2, [.ref 1, .ref 39, .ref 40, .ref 41, .ref 42, .ref 43, .ref 44, .ref 45, .int 0, .int 0, .int 0, .int 0, .int 0, .int 0, .int 0]), (1, 10, []), (1, 10, []), (1, 10, []), (1, 10, []), (1, 10, []), (1, 6, []), (1, 3, []), (0, 5, [.ref 47, .int 0, .int 0, .int 0, .int 0, .int 0, .int 0, .int 0, .ref 48]), (1, 96, []), (1, 96, []), (6, 4, [.ref 50, .ref 52, .ref 54, .ref 56])]
def ab_S0_2 : List ab_C := [(0, 3, [.ref 51, .int 0, .int 0]), (1, 24, []), (0, 3, [.ref 53, .int 0, .int 0]), (1, 24, []), (0, 3, [.ref 55, .int 0, .int 0]), (1, 24, []), (0, 3, [.ref 57, .int 0, .int 0]), (1, 24, []), (7, 5, [.ref 59, .ref 62, .ref 65, .ref 68, .ref 71]), (0, 4, [.ref 60, .int 0, .int 0, .int 0, .int 0, .int 0]), (0, 3, [.ref 61, .int 0, .int 0]), (1, 24, []), (0, 4, [.ref 63, .int 0, .int 0, .int 0, .int 0, .int 0]), (0, 3, [.ref 64, .int 0, .int 0]), (1, 24, []), (0, 4, [.ref 66, .int 0, .int 0, .int 0, .int 0, .int 0]), (0, 3, [.ref 67, .int 0, .int 0]), (1, 24, []), (0, 4, [.ref 69, .int 0, .int 0, .int 0, .int 0, .int 0]), (0, 3, [.ref 70, .int 0, .int 0]), (1, 24, []), (0, 4, [.ref 72, .int 0, .int 0, .int 0, .int 0, .int 0]), (0, 3, [.ref 73, .int 0, .int 0]), (1, 24, []), (1, 60, [])]
def ab_S0_3 : List ab_C := [(1, 10, []), (0, 7, [.ref 77, .ref 78, .ref 79, .int 0, .ref 80, .ref 81, .int 0, .int 0, .int 0, .int 0, .int 0, .int 0, .int 0, .ref 82, .ref 83, .ref 84, .int 0, .int 0, .ref 85, .int 0, .ref 86, .ref 87, .ref 88, .ref 89, .ref 90, .ref 91, .ref 92, .ref 93, .ref 94, .ref 95, .ref 96, .ref 97, .int 0]), (1, 1435, []), (1, 1435, []), (1, 1435, []), (1, 10, []), (1, 96, []), (3, 12, []), (1, 4, []), (1, 96, []), (1, 96, []), (2, 10, []), (1, 96, []), (1, 4, []), (1, 4, []), (1, 4, []), (1, 96, []), (1, 5, []), (1, 5, []), (1, 5, []), (1, 120, []), (1, 24, []), (1, 60, [])]
def ab_S0 : List ab_C := ab_S0_0 ++ (ab_S0_1 ++ (ab_S0_2 ++ (ab_S0_3)))
theorem s_0 : ab_S0[0]? = some (0, 6, [.ref 1, .ref 22, .ref 30, .ref 38, .ref 46, .ref 49, .ref 58, .ref 74, .ref 75, .int 0, .int 0]) := by decide +kernel
theorem s_1 : ab_S0[1]? = some (0, 1, [.ref 2, .ref 3, .ref 4, .ref 5, .ref 20, .ref 21]) := by decide +kernel
theorem s_2 : ab_S0[2]? = some (1, 14, []) := by decide +kernel
theorem s_3 : ab_S0[3]? = some (1, 14, []) := by decide +kernel
theorem s_4 : ab_S0[4]? = some (1, 14, []) := by decide +kernel
theorem s_5 : ab_S0[5]? = some (5, 14, [.ref 6, .ref 7, .ref 8, .ref 9, .ref 10, .ref 11, .ref 12, .ref 13, .ref 14, .ref 15, .ref 16, .ref 17, .ref 18, .ref 19]) := by decide +kernel
theorem s_6 : ab_S0[6]? = some (1, 96, []) := by decide +kernel
theorem s_7 : ab_S0[7]? = some (1, 96, []) := by decide +kernel
theorem s_8 : ab_S0[8]? = some (1, 96, []) := by decide +kernel
theorem s_9 : ab_S0[9]? = some (1, 96, []) := by decide +kernel
theorem s_10 : ab_S0[10]? = some (1, 96, []) := by decide +kernel
theorem s_11 : ab_S0[11]? = some (1, 96, []) := by decide +kernel
theorem s_12 : ab_S0[12]? = some (1, 96, []) := by decide +kernel
theorem s_13 : ab_S0[13]? = some (1, 96, []) := by decide +kernel
theorem s_14 : ab_S0[14]? = some (1, 96, []) := by decide +kernel
theorem s_15 : ab_S0[15]? = some (1, 96, []) := by decide +kernel
theorem s_16 : ab_S0[16]? = some (1, 96, []) := by decide +kernel
theorem s_17 : ab_S0[17]? = some (1, 96, []) := by decide +kernel
theorem s_18 : ab_S0[18]? = some (1, 96, []) := by decide +kernel
theorem s_19 : ab_S0[19]? = some (1, 96, []) := by decide +kernel
theorem s_20 : ab_S0[20]? = some (1, 4, []) := by decide +kernel
theorem s_21 : ab_S0[21]? = some (1, 96, []) := by decide +kernel
theorem s_22 : ab_S0[22]? = some (0, 2, [.ref 1, .ref 23, .ref 24, .ref 25, .ref 26, .ref 27, .ref 28, .ref 29, .int 0, .int 0, .int 0, .int 0, .int 0, .int 0, .int 0]) := by decide +kernel
theorem s_23 : ab_S0[23]? = some (1, 10, []) := by decide +kernel
theorem s_24 : ab_S0[24]? = some (1, 10, []) := by decide +kernel
theorem s_25 : ab_S0[25]? = some (1, 10, []) := by decide +kernel
theorem s_26 : ab_S0[26]? = some (1, 10, []) := by decide +kernel
theorem s_27 : ab_S0[27]? = some (1, 10, []) := by decide +kernel
theorem s_28 : ab_S0[28]? = some (1, 6, []) := by decide +kernel
theorem s_29 : ab_S0[29]? = some (1, 3, []) := by decide +kernel
theorem s_30 : ab_S0[30]? = some (0, 2, [.ref 1, .ref 31, .ref 32, .ref 33, .ref 34, .ref 35, .ref 36, .ref 37, .int 0, .int 0, .int 0, .int 0, .int 0, .int 0, .int 0]) := by decide +kernel
theorem s_31 : ab_S0[31]? = some (1, 10, []) := by decide +kernel
theorem s_32 : ab_S0[32]? = some (1, 10, []) := by decide +kernel
theorem s_33 : ab_S0[33]? = some (1, 10, []) := by decide +kernel
theorem s_34 : ab_S0[34]? = some (1, 10, []) := by decide +kernel
theorem s_35 : ab_S0[35]? = some (1, 10, []) := by decide +kernel
theorem s_36 : ab_S0[36]? = some (1, 6, []) := by decide +kernel
theorem s_37 : ab_S0[37]? = some (1, 3, []) := by decide +kernel
theorem s_38 : ab_S0[38]? = some (0, 2, [.ref 1, .ref 39, .ref 40, .ref 41, .ref 42, .ref 43, .ref 44, .ref 45, .int 0, .int 0, .int 0, .int 0, .int 0, .int 0, .int 0]) := by decide +kernel
theorem s_39 : ab_S0[39]? = some (1, 10, []) := by decide +kernel
theorem s_40 : ab_S0[40]? = some (1, 10, []) := by decide +kernel
theorem s_41 : ab_S0[41]? = some (1, 10, []) := by decide +kernel
theorem s_42 : ab_S0[42]? = some (1, 10, []) := by decide +kernel
theorem s_43 : ab_S0[43]? = some (1, 10, []) := by decide +kernel
theorem s_44 : ab_S0[44]? = some (1, 6, []) := by decide +kernel
theorem s_45 : ab_S0[45]? = some (1, 3, []) := by decide +kernel
theorem s_46 : ab_S0[46]? = some (0, 5, [.ref 47, .int 0, .int 0, .int 0, .int 0, .int 0, .int 0, .int 0, .ref 48]) := by decide +kernel
theorem s_47 : ab_S0[47]? = some (1, 96, []) := by decide +kernel
theorem s_48 : ab_S0[48]? = some (1, 96, []) := by decide +kernel
theorem s_49 : ab_S0[49]? = some (6, 4, [.ref 50, .ref 52, .ref 54, .ref 56]) := by decide +kernel
theorem s_50 : ab_S0[50]? = some (0, 3, [.ref 51, .int 0, .int 0]) := by decide +kernel
theorem s_51 : ab_S0[51]? = some (1, 24, []) := by decide +kernel
theorem s_52 : ab_S0[52]? = some (0, 3, [.ref 53, .int 0, .int 0]) := by decide +kernel
theorem s_53 : ab_S0[53]? = some (1, 24, []) := by decide +kernel
theorem s_54 : ab_S0[54]? = some (0, 3, [.ref 55, .int 0, .int 0]) := by decide +kernel
theorem s_55 : ab_S0[55]? = some (1, 24, []) := by decide +kernel
theorem s_56 : ab_S0[56]? = some (0, 3, [.ref 57, .int 0, .int 0]) := by decide +kernel
theorem s_57 : ab_S0[57]? = some (1, 24, []) := by decide +kernel
theorem s_58 : ab_S0[58]? = some (7, 5, [.ref 59, .ref 62, .ref 65, .ref 68, .ref 71]) := by decide +kernel
theorem s_59 : ab_S0[59]? = some (0, 4, [.ref 60, .int 0, .int 0, .int 0, .int 0, .int 0]) := by decide +kernel
theorem s_60 : ab_S0[60]? = some (0, 3, [.ref 61, .int 0, .int 0]) := by decide +kernel
theorem s_61 : ab_S0[61]? = some (1, 24, []) := by decide +kernel
theorem s_62 : ab_S0[62]? = some (0, 4, [.ref 63, .int 0, .int 0, .int 0, .int 0, .int 0]) := by decide +kernel
theorem s_63 : ab_S0[63]? = some (0, 3, [.ref 64, .int 0, .int 0]) := by decide +kernel
theorem s_64 : ab_S0[64]? = some (1, 24, []) := by decide +kernel
theorem s_65 : ab_S0[65]? = some (0, 4, [.ref 66, .int 0, .int 0, .int 0, .int 0, .int 0]) := by decide +kernel
theorem s_66 : ab_S0[66]? = some (0, 3, [.ref 67, .int 0, .int 0]) := by decide +kernel
theorem s_67 : ab_S0[67]? = some (1, 24, []) := by decide +kernel
theorem s_68 : ab_S0[68]? = some (0, 4, [.ref 69, .int 0, .int 0, .int 0, .int 0, .int 0]) := by decide +kernel
theorem s_69 : ab_S0[69]? = some (0, 3, [.ref 70, .int 0, .int 0]) := by decide +kernel
theorem s_70 : ab_S0[70]? = some (1, 24, []) := by decide +kernel
theorem s_71 : ab_S0[71]? = some (0, 4, [.ref 72, .int 0, .int 0, .int 0, .int 0, .int 0]) := by decide +kernel
theorem s_72 : ab_S0[72]? = some (0, 3, [.ref 73, .int 0, .int 0]) := by decide +kernel
theorem s_73 : ab_S0[73]? = some (1, 24, []) := by decide +kernel
theorem s_74 : ab_S0[74]? = some (1, 60, []) := by decide +kernel
theorem s_75 : ab_S0[75]? = some (1, 10, []) := by decide +kernel
theorem s_76 : ab_S0[76]? = some (0, 7, [.ref 77, .ref 78, .ref 79, .int 0, .ref 80, .ref 81, .int 0, .int 0, .int 0, .int 0, .int 0, .int 0, .int 0, .ref 82, .ref 83, .ref 84, .int 0, .int 0, .ref 85, .int 0, .ref 86, .ref 87, .ref 88, .ref 89, .ref 90, .ref 91, .ref 92, .ref 93, .ref 94, .ref 95, .ref 96, .ref 97, .int 0]) := by decide +kernel
theorem s_77 : ab_S0[77]? = some (1, 1435, []) := by decide +kernel
theorem s_78 : ab_S0[78]? = some (1, 1435, []) := by decide +kernel
theorem s_79 : ab_S0[79]? = some (1, 1435, []) := by decide +kernel
theorem s_80 : ab_S0[80]? = some (1, 10, []) := by decide +kernel
theorem s_81 : ab_S0[81]? = some (1, 96, []) := by decide +kernel
theorem s_82 : ab_S0[82]? = some (3, 12, []) := by decide +kernel
theorem s_83 : ab_S0[83]? = some (1, 4, []) := by decide +kernel
theorem s_84 : ab_S0[84]? = some (1, 96, []) := by decide +kernel
theorem s_85 : ab_S0[85]? = some (1, 96, []) := by decide +kernel
theorem s_86 : ab_S0[86]? = some (2, 10, []) := by decide +kernel
theorem s_87 : ab_S0[87]? = some (1, 96, []) := by decide +kernel
theorem s_88 : ab_S0[88]? = some (1, 4, []) := by decide +kernel
theorem s_89 : ab_S0[89]? = some (1, 4, []) := by decide +kernel
theorem s_90 : ab_S0[90]? = some (1, 4, []) := by decide +kernel
theorem s_91 : ab_S0[91]? = some (1, 96, []) := by decide +kernel
theorem s_92 : ab_S0[92]? = some (1, 5, []) := by decide +kernel
theorem s_93 : ab_S0[93]? = some (1, 5, []) := by decide +kernel
theorem s_94 : ab_S0[94]? = some (1, 5, []) := by decide +kernel
theorem s_95 : ab_S0[95]? = some (1, 120, []) := by decide +kernel
theorem s_96 : ab_S0[96]? = some (1, 24, []) := by decide +kernel
theorem s_97 : ab_S0[97]? = some (1, 60, []) := by decide +kernel
def ab_isRoom (b : Nat) : Prop := b + 8 ≤ 900 ∧ ab_S0[b]? = some (0, 2, [.ref 1, .ref (b + 1), .ref (b + 2), .ref (b + 3), .ref (b + 4), .ref (b + 5), .ref (b + 6), .ref (b + 7), .int 0, .int 0, .int 0, .int 0, .int 0, .int 0, .int 0]) ∧ ab_S0[b + 1]? = some (1, 10, []) ∧ ab_S0[b + 2]? = some (1, 10, []) ∧ ab_S0[b + 3]? = some (1, 10, []) ∧ ab_S0[b + 4]? = some (1, 10, []) ∧ ab_S0[b + 5]? = some (1, 10, []) ∧ ab_S0[b + 6]? = some (1, 6, []) ∧ ab_S0[b + 7]? = some (1, 3, [])
theorem ab_isRoom.s0 {b : Nat} (h : ab_isRoom b) : ab_S0[b]? = some (0, 2, [.ref 1, .ref (b + 1), .ref (b + 2), .ref (b + 3), .ref (b + 4), .ref (b + 5), .ref (b + 6), .ref (b + 7), .int 0, .int 0, .int 0, .int 0, .int 0, .int 0, .int 0]) := h.2.1
theorem ab_isRoom.l0 {b : Nat} (h : ab_isRoom b) : b < 900 := by have := h.1; omega
theorem ab_isRoom.s1 {b : Nat} (h : ab_isRoom b) : ab_S0[b + 1]? = some (1, 10, []) := h.2.2.1
theorem ab_isRoom.l1 {b : Nat} (h : ab_isRoom b) : b + 1 < 900 := by have := h.1; omega
theorem ab_isRoom.s2 {b : Nat} (h : ab_isRoom b) : ab_S0[b + 2]? = some (1, 10, []) := h.2.2.2.1
theorem ab_isRoom.l2 {b : Nat} (h : ab_isRoom b) : b + 2 < 900 := by have := h.1; omega
theorem ab_isRoom.s3 {b : Nat} (h : ab_isRoom b) : ab_S0[b + 3]? = some (1, 10, []) := h.2.2.2.2.1
theorem ab_isRoom.l3 {b : Nat} (h : ab_isRoom b) : b + 3 < 900 := by have := h.1; omega
theorem ab_isRoom.s4 {b : Nat} (h : ab_isRoom b) : ab_S0[b + 4]? = some (1, 10, []) := h.2.2.2.2.2.1
theorem ab_isRoom.l4 {b : Nat} (h : ab_isRoom b) : b + 4 < 900 := by have := h.1; omega
theorem ab_isRoom.s5 {b : Nat} (h : ab_isRoom b) : ab_S0[b + 5]? = some (1, 10, []) := h.2.2.2.2.2.2.1
theorem ab_isRoom.l5 {b : Nat} (h : ab_isRoom b) : b + 5 < 900 := by have := h.1; omega
theorem ab_isRoom.s6 {b : Nat} (h : ab_isRoom b) : ab_S0[b + 6]? = some (1, 6, []) := h.2.2.2.2.2.2.2.1
theorem ab_isRoom.l6 {b : Nat} (h : ab_isRoom b) : b + 6 < 900 := by have := h.1; omega
theorem ab_isRoom.s7 {b : Nat} (h : ab_isRoom b) : ab_S0[b + 7]? = some (1, 3, []) := h.2.2.2.2.2.2.2.2
theorem ab_isRoom.l7 {b : Nat} (h : ab_isRoom b) : b + 7 < 900 := by have := h.1; omega
def ab_isSheet (b : Nat) : Prop := b + 2 ≤ 900 ∧ ab_S0[b]? = some (0, 3, [.ref (b + 1), .int 0, .int 0]) ∧ ab_S0[b + 1]? = some (1, 24, [])
theorem ab_isSheet.s0 {b : Nat} (h : ab_isSheet b) : ab_S0[b]? = some (0, 3, [.ref (b + 1), .int 0, .int 0]) := h.2.1
theorem ab_isSheet.l0 {b : Nat} (h : ab_isSheet b) : b < 900 := by have := h.1; omega
theorem ab_isSheet.s1 {b : Nat} (h : ab_isSheet b) : ab_S0[b + 1]? = some (1, 24, []) := h.2.2
theorem ab_isSheet.l1 {b : Nat} (h : ab_isSheet b) : b + 1 < 900 := by have := h.1; omega
def ab_isSlot (b : Nat) : Prop := b + 3 ≤ 900 ∧ ab_S0[b]? = some (0, 4, [.ref (b + 1), .int 0, .int 0, .int 0, .int 0, .int 0]) ∧ ab_S0[b + 1]? = some (0, 3, [.ref (b + 2), .int 0, .int 0]) ∧ ab_S0[b + 2]? = some (1, 24, [])
theorem ab_isSlot.s0 {b : Nat} (h : ab_isSlot b) : ab_S0[b]? = some (0, 4, [.ref (b + 1), .int 0, .int 0, .int 0, .int 0, .int 0]) := h.2.1
theorem ab_isSlot.l0 {b : Nat} (h : ab_isSlot b) : b < 900 := by have := h.1; omega
theorem ab_isSlot.s1 {b : Nat} (h : ab_isSlot b) : ab_S0[b + 1]? = some (0, 3, [.ref (b + 2), .int 0, .int 0]) := h.2.2.1
theorem ab_isSlot.l1 {b : Nat} (h : ab_isSlot b) : b + 1 < 900 := by have := h.1; omega
theorem ab_isSlot.s2 {b : Nat} (h : ab_isSlot b) : ab_S0[b + 2]? = some (1, 24, []) := h.2.2.2
theorem ab_isSlot.l2 {b : Nat} (h : ab_isSlot b) : b + 2 < 900 := by have := h.1; omega
theorem ab_room_22 : ab_isRoom 22 := ⟨by decide, s_22, s_23, s_24, s_25, s_26, s_27, s_28, s_29⟩
theorem ab_room_30 : ab_isRoom 30 := ⟨by decide, s_30, s_31, s_32, s_33, s_34, s_35, s_36, s_37⟩
theorem ab_room_38 : ab_isRoom 38 := ⟨by decide, s_38, s_39, s_40, s_41, s_42, s_43, s_44, s_45⟩
theorem ab_sheet_50 : ab_isSheet 50 := ⟨by decide, s_50, s_51⟩
theorem ab_sheet_52 : ab_isSheet 52 := ⟨by decide, s_52, s_53⟩
theorem ab_sheet_54 : ab_isSheet 54 := ⟨by decide, s_54, s_55⟩
theorem ab_sheet_56 : ab_isSheet 56 := ⟨by decide, s_56, s_57⟩
theorem ab_slot_59 : ab_isSlot 59 := ⟨by decide, s_59, s_60, s_61⟩
theorem ab_slot_62 : ab_isSlot 62 := ⟨by decide, s_62, s_63, s_64⟩
theorem ab_slot_65 : ab_isSlot 65 := ⟨by decide, s_65, s_66, s_67⟩
theorem ab_slot_68 : ab_isSlot 68 := ⟨by decide, s_68, s_69, s_70⟩
theorem ab_slot_71 : ab_isSlot 71 := ⟨by decide, s_71, s_72, s_73⟩
theorem ab_in_lt {x : Int32} {n : Nat} (h : ab_in x n) : x.toNatClampNeg < n := Nat.not_le.mp fun q => h (Or.inr q)
theorem ab_sheetAt {x : Int32} (h : ab_in x 4) : ab_isSheet (50 + 2 * x.toNatClampNeg) := by
  have := ab_in_lt h
  rcases (show x.toNatClampNeg = 0 ∨ x.toNatClampNeg = 1 ∨ x.toNatClampNeg = 2 ∨ x.toNatClampNeg = 3 by omega) with e | e | e | e <;> rw [e]
  · exact ab_sheet_50
  · exact ab_sheet_52
  · exact ab_sheet_54
  · exact ab_sheet_56
theorem ab_slotAt {x : Int32} (h : ab_in x 5) : ab_isSlot (59 + 3 * x.toNatClampNeg) := by
  have := ab_in_lt h
  rcases (show x.toNatClampNeg = 0 ∨ x.toNatClampNeg = 1 ∨ x.toNatClampNeg = 2 ∨ x.toNatClampNeg = 3 ∨ x.toNatClampNeg = 4 by omega) with e | e | e | e | e <;> rw [e]
  · exact ab_slot_59
  · exact ab_slot_62
  · exact ab_slot_65
  · exact ab_slot_68
  · exact ab_slot_71
theorem ab_isSlot.row {b : Nat} (h : ab_isSlot b) : ab_isSheet (b + 1) := ⟨by have := h.1; omega, h.s1, h.s2⟩
theorem ab_v49 : ∀ j, j < 4 → ([.ref 50, .ref 52, .ref 54, .ref 56] : List Value)[j]? = some (.ref (50 + 2 * j)) := by
  intro j hj
  rcases (show j = 0 ∨ j = 1 ∨ j = 2 ∨ j = 3 by omega) with rfl | rfl | rfl | rfl <;> rfl
theorem ab_v58 : ∀ j, j < 5 → ([.ref 59, .ref 62, .ref 65, .ref 68, .ref 71] : List Value)[j]? = some (.ref (59 + 3 * j)) := by
  intro j hj
  rcases (show j = 0 ∨ j = 1 ∨ j = 2 ∨ j = 3 ∨ j = 4 by omega) with rfl | rfl | rfl | rfl | rfl <;> rfl
theorem ab_v5 : ∀ j, j < 14 → ([.ref 6, .ref 7, .ref 8, .ref 9, .ref 10, .ref 11, .ref 12, .ref 13, .ref 14, .ref 15, .ref 16, .ref 17, .ref 18, .ref 19] : List Value)[j]? = some (.ref (6 + 1 * j)) := by
  intro j hj
  rcases (show j = 0 ∨ j = 1 ∨ j = 2 ∨ j = 3 ∨ j = 4 ∨ j = 5 ∨ j = 6 ∨ j = 7 ∨ j = 8 ∨ j = 9 ∨ j = 10 ∨ j = 11 ∨ j = 12 ∨ j = 13 by omega) with rfl | rfl | rfl | rfl | rfl | rfl | rfl | rfl | rfl | rfl | rfl | rfl | rfl | rfl <;> rfl
theorem ab_stepsAt {x : Int32} (h : ab_in x 14) : 6 + 1 * x.toNatClampNeg < 900 ∧ ab_S0[6 + 1 * x.toNatClampNeg]? = some (1, 96, []) := by
  have := ab_in_lt h
  generalize x.toNatClampNeg = j at this
  rcases (show j = 0 ∨ j = 1 ∨ j = 2 ∨ j = 3 ∨ j = 4 ∨ j = 5 ∨ j = 6 ∨ j = 7 ∨ j = 8 ∨ j = 9 ∨ j = 10 ∨ j = 11 ∨ j = 12 ∨ j = 13 by omega) with rfl | rfl | rfl | rfl | rfl | rfl | rfl | rfl | rfl | rfl | rfl | rfl | rfl | rfl <;> exact ⟨by decide, by decide +kernel⟩
theorem mf_X0_isKind : ab_Mf m_X0_isKind 0 1 1 0 (some .boolean) := by unfold ab_Mf; decide +kernel
theorem mf_X0_isUnder : ab_Mf m_X0_isUnder 0 2 2 0 (some .boolean) := by unfold ab_Mf; decide +kernel
theorem mf_X0_worth : ab_Mf m_X0_worth 0 3 4 0 (some .int) := by unfold ab_Mf; decide +kernel
theorem mf_X1_init : ab_Mf m_X1_init 1 0 1 1 none := by unfold ab_Mf; decide +kernel
theorem mf_X1_namesOf : ab_Mf m_X1_namesOf 1 1 1 2 (some (.object "java/lang/String")) := by unfold ab_Mf; decide +kernel
theorem mf_X1_wordOf : ab_Mf m_X1_wordOf 1 1 1 2 (some (.object "java/lang/String")) := by unfold ab_Mf; decide +kernel
theorem mf_X1_write : ab_Mf m_X1_write 1 2 3 1 none := by unfold ab_Mf; decide +kernel
theorem mf_X1_name : ab_Mf m_X1_name 1 4 5 1 none := by unfold ab_Mf; decide +kernel
theorem mf_X1_value : ab_Mf m_X1_value 1 1 6 0 (some .int) := by unfold ab_Mf; decide +kernel
theorem mf_X1_leaf : ab_Mf m_X1_leaf 1 1 3 0 (some .int) := by unfold ab_Mf; decide +kernel
theorem mf_X1_join : ab_Mf m_X1_join 1 3 3 0 (some .int) := by unfold ab_Mf; decide +kernel
theorem mf_X2_init : ab_Mf m_X2_init 2 1 3 1 none := by unfold ab_Mf; decide +kernel
theorem mf_X2_isCorner : ab_Mf m_X2_isCorner 2 1 1 0 (some .boolean) := by unfold ab_Mf; decide +kernel
theorem mf_X2_held : ab_Mf m_X2_held 2 1 1 0 (some .int) := by unfold ab_Mf; decide +kernel
theorem mf_X2_become : ab_Mf m_X2_become 2 1 2 1 none := by unfold ab_Mf; decide +kernel
theorem mf_X2_has : ab_Mf m_X2_has 2 1 2 0 (some .boolean) := by unfold ab_Mf; decide +kernel
theorem mf_X2_isFull : ab_Mf m_X2_isFull 2 0 1 0 (some .boolean) := by unfold ab_Mf; decide +kernel
theorem mf_X2_isBuried : ab_Mf m_X2_isBuried 2 1 2 0 (some .boolean) := by unfold ab_Mf; decide +kernel
theorem mf_X2_add : ab_Mf m_X2_add 2 4 5 0 (some .int) := by unfold ab_Mf; decide +kernel
theorem mf_X2_addByLot : ab_Mf m_X2_addByLot 2 0 5 1 none := by unfold ab_Mf; decide +kernel
theorem mf_X2_draw : ab_Mf m_X2_draw 2 0 1 0 (some .int) := by unfold ab_Mf; decide +kernel
theorem mf_X2_goOver : ab_Mf m_X2_goOver 2 1 2 1 none := by unfold ab_Mf; decide +kernel
theorem mf_X2_brighten : ab_Mf m_X2_brighten 2 1 3 1 none := by unfold ab_Mf; decide +kernel
theorem mf_X2_passEvenings : ab_Mf m_X2_passEvenings 2 1 3 1 none := by unfold ab_Mf; decide +kernel
theorem mf_X2_passEvening : ab_Mf m_X2_passEvening 2 0 3 1 none := by unfold ab_Mf; decide +kernel
theorem mf_X2_dustiestIn : ab_Mf m_X2_dustiestIn 2 1 7 0 (some .int) := by unfold ab_Mf; decide +kernel
theorem mf_X2_kickByChance : ab_Mf m_X2_kickByChance 2 0 4 1 none := by unfold ab_Mf; decide +kernel
theorem mf_X2_gathers : ab_Mf m_X2_gathers 2 1 3 0 (some .int) := by unfold ab_Mf; decide +kernel
theorem mf_X2_plainBloom : ab_Mf m_X2_plainBloom 2 1 4 0 (some .int) := by unfold ab_Mf; decide +kernel
theorem mf_X2_othersBeside : ab_Mf m_X2_othersBeside 2 2 5 0 (some .int) := by unfold ab_Mf; decide +kernel
theorem mf_X2_draws : ab_Mf m_X2_draws 2 1 3 0 (some .int) := by unfold ab_Mf; decide +kernel
theorem mf_X2_worth : ab_Mf m_X2_worth 2 1 2 0 (some .int) := by unfold ab_Mf; decide +kernel
theorem mf_X2_sayingsIn : ab_Mf m_X2_sayingsIn 2 1 4 0 (some .int) := by unfold ab_Mf; decide +kernel
theorem mf_X2_worthIn : ab_Mf m_X2_worthIn 2 1 4 0 (some .int) := by unfold ab_Mf; decide +kernel
theorem mf_X2_drawnIn : ab_Mf m_X2_drawnIn 2 1 4 0 (some .int) := by unfold ab_Mf; decide +kernel
theorem mf_X2_buried : ab_Mf m_X2_buried 2 0 3 0 (some .int) := by unfold ab_Mf; decide +kernel
theorem mf_X2_cornersWithSayings : ab_Mf m_X2_cornersWithSayings 2 0 3 0 (some .int) := by unfold ab_Mf; decide +kernel
theorem mf_X2_deafest : ab_Mf m_X2_deafest 2 0 3 0 (some .int) := by unfold ab_Mf; decide +kernel
theorem mf_X2_allDust : ab_Mf m_X2_allDust 2 0 3 0 (some .int) := by unfold ab_Mf; decide +kernel
theorem mf_X2_allHeed : ab_Mf m_X2_allHeed 2 0 3 0 (some .int) := by unfold ab_Mf; decide +kernel
theorem mf_X2_feeGiven : ab_Mf m_X2_feeGiven 2 0 2 0 (some .int) := by unfold ab_Mf; decide +kernel
theorem mf_X2_fineGiven : ab_Mf m_X2_fineGiven 2 1 3 0 (some .int) := by unfold ab_Mf; decide +kernel
theorem mf_X3_init : ab_Mf m_X3_init 3 0 1 1 none := by unfold ab_Mf; decide +kernel
theorem mf_X3_begin : ab_Mf m_X3_begin 3 2 4 1 none := by unfold ab_Mf; decide +kernel
theorem mf_X3_become : ab_Mf m_X3_become 3 1 2 1 none := by unfold ab_Mf; decide +kernel
theorem mf_X3_isMissing : ab_Mf m_X3_isMissing 3 0 1 0 (some .boolean) := by unfold ab_Mf; decide +kernel
theorem mf_X3_has : ab_Mf m_X3_has 3 1 2 0 (some .boolean) := by unfold ab_Mf; decide +kernel
theorem mf_X3_hasRun : ab_Mf m_X3_hasRun 3 2 3 0 (some .boolean) := by unfold ab_Mf; decide +kernel
theorem mf_X3_isNumber : ab_Mf m_X3_isNumber 3 1 2 0 (some .boolean) := by unfold ab_Mf; decide +kernel
theorem mf_X4_init : ab_Mf m_X4_init 4 0 1 1 none := by unfold ab_Mf; decide +kernel
theorem mf_X4_holdSaying : ab_Mf m_X4_holdSaying 4 3 4 1 none := by unfold ab_Mf; decide +kernel
theorem mf_X5_init : ab_Mf m_X5_init 5 0 1 1 none := by unfold ab_Mf; decide +kernel
theorem mf_X5_hasRoom : ab_Mf m_X5_hasRoom 5 1 2 0 (some .boolean) := by unfold ab_Mf; decide +kernel
theorem mf_X5_add : ab_Mf m_X5_add 5 1 3 1 none := by unfold ab_Mf; decide +kernel
theorem mf_X5_isText : ab_Mf m_X5_isText 5 0 1 0 (some .boolean) := by unfold ab_Mf; decide +kernel
theorem mf_X5_pass : ab_Mf m_X5_pass 5 0 5 1 none := by unfold ab_Mf; decide +kernel
theorem mf_X5_sortAt : ab_Mf m_X5_sortAt 5 1 3 0 (some .int) := by unfold ab_Mf; decide +kernel
theorem mf_X5_isSignOf : ab_Mf m_X5_isSignOf 5 1 2 0 (some .boolean) := by unfold ab_Mf; decide +kernel
theorem mf_X5_readKey : ab_Mf m_X5_readKey 5 0 2 0 (some .boolean) := by unfold ab_Mf; decide +kernel
theorem mf_X5_isWord : ab_Mf m_X5_isWord 5 1 3 0 (some .boolean) := by unfold ab_Mf; decide +kernel
theorem mf_X5_signsOf : ab_Mf m_X5_signsOf 5 1 1 2 (some (.object "java/lang/String")) := by unfold ab_Mf; decide +kernel
theorem mf_X5_readJoined : ab_Mf m_X5_readJoined 5 3 8 0 (some .boolean) := by unfold ab_Mf; decide +kernel
theorem mf_X5_readPiece : ab_Mf m_X5_readPiece 5 2 4 0 (some .boolean) := by unfold ab_Mf; decide +kernel
theorem mf_X5_readClosing : ab_Mf m_X5_readClosing 5 0 1 0 (some .boolean) := by unfold ab_Mf; decide +kernel
theorem mf_X5_readNumber : ab_Mf m_X5_readNumber 5 0 3 0 (some .boolean) := by unfold ab_Mf; decide +kernel
theorem mf_X5_readName : ab_Mf m_X5_readName 5 0 2 0 (some .boolean) := by unfold ab_Mf; decide +kernel
theorem mf_X5_writeLeaf : ab_Mf m_X5_writeLeaf 5 1 2 1 none := by unfold ab_Mf; decide +kernel
theorem mf_X5_write : ab_Mf m_X5_write 5 1 2 1 none := by unfold ab_Mf; decide +kernel
theorem mf_X6_init : ab_Mf m_X6_init 6 0 2 1 none := by unfold ab_Mf; decide +kernel
theorem mf_X6_saying : ab_Mf m_X6_saying 6 3 4 0 (some .int) := by unfold ab_Mf; decide +kernel
theorem mf_X6_told : ab_Mf m_X6_told 6 2 3 0 (some .int) := by unfold ab_Mf; decide +kernel
theorem mf_X6_as : ab_Mf m_X6_as 6 2 3 0 (some .int) := by unfold ab_Mf; decide +kernel
theorem mf_X6_turns : ab_Mf m_X6_turns 6 2 4 0 (some .int) := by unfold ab_Mf; decide +kernel
theorem mf_X6_set : ab_Mf m_X6_set 6 3 6 0 (some .int) := by unfold ab_Mf; decide +kernel
theorem mf_X6_moves : ab_Mf m_X6_moves 6 2 4 0 (some .int) := by unfold ab_Mf; decide +kernel
theorem mf_X6_dusts : ab_Mf m_X6_dusts 6 1 3 0 (some .int) := by unfold ab_Mf; decide +kernel
theorem mf_X6_heed : ab_Mf m_X6_heed 6 2 4 0 (some .int) := by unfold ab_Mf; decide +kernel
theorem mf_X6_cornerOf : ab_Mf m_X6_cornerOf 6 2 3 0 (some .int) := by unfold ab_Mf; decide +kernel
theorem mf_X6_kicks : ab_Mf m_X6_kicks 6 1 3 0 (some .int) := by unfold ab_Mf; decide +kernel
theorem mf_X6_deal : ab_Mf m_X6_deal 6 1 4 0 (some .int) := by unfold ab_Mf; decide +kernel
theorem mf_X6_seed : ab_Mf m_X6_seed 6 1 3 0 (some .int) := by unfold ab_Mf; decide +kernel
theorem mf_X6_evenings : ab_Mf m_X6_evenings 6 1 4 0 (some .int) := by unfold ab_Mf; decide +kernel
theorem mf_X6_room : ab_Mf m_X6_room 6 1 2 0 (some .int) := by unfold ab_Mf; decide +kernel
theorem mf_X6_behind : ab_Mf m_X6_behind 6 2 3 0 (some .int) := by unfold ab_Mf; decide +kernel
theorem mf_X6_sinks : ab_Mf m_X6_sinks 6 1 3 0 (some .int) := by unfold ab_Mf; decide +kernel
theorem mf_X6_hears : ab_Mf m_X6_hears 6 2 4 0 (some .int) := by unfold ab_Mf; decide +kernel
theorem mf_X6_shine : ab_Mf m_X6_shine 6 1 5 0 (some .int) := by unfold ab_Mf; decide +kernel
theorem mf_X6_isEnoughShine : ab_Mf m_X6_isEnoughShine 6 2 3 0 (some .boolean) := by unfold ab_Mf; decide +kernel
theorem mf_X6_edge : ab_Mf m_X6_edge 6 3 5 0 (some .int) := by unfold ab_Mf; decide +kernel
theorem mf_X6_place : ab_Mf m_X6_place 6 3 7 0 (some .int) := by unfold ab_Mf; decide +kernel
theorem mf_X6_becomes : ab_Mf m_X6_becomes 6 3 7 0 (some .int) := by unfold ab_Mf; decide +kernel
theorem mf_X6_like : ab_Mf m_X6_like 6 2 5 0 (some .int) := by unfold ab_Mf; decide +kernel
theorem mf_X6_gatherDifferences : ab_Mf m_X6_gatherDifferences 6 1 4 1 none := by unfold ab_Mf; decide +kernel
theorem mf_X6_fee : ab_Mf m_X6_fee 6 0 1 0 (some .int) := by unfold ab_Mf; decide +kernel
theorem mf_X6_fine : ab_Mf m_X6_fine 6 1 2 0 (some .int) := by unfold ab_Mf; decide +kernel
theorem mf_X6_feed : ab_Mf m_X6_feed 6 3 4 0 (some .int) := by unfold ab_Mf; decide +kernel
theorem mf_X6_trim : ab_Mf m_X6_trim 6 1 2 0 (some .int) := by unfold ab_Mf; decide +kernel
theorem mf_X6_text : ab_Mf m_X6_text 6 0 2 0 (some .int) := by unfold ab_Mf; decide +kernel
theorem mf_X6_textTold : ab_Mf m_X6_textTold 6 2 3 0 (some .int) := by unfold ab_Mf; decide +kernel
theorem mf_X6_why : ab_Mf m_X6_why 6 1 2 0 (some .int) := by unfold ab_Mf; decide +kernel
theorem mf_X6_sheet : ab_Mf m_X6_sheet 6 3 4 0 (some .int) := by unfold ab_Mf; decide +kernel
theorem mf_X6_mark : ab_Mf m_X6_mark 6 3 5 0 (some .int) := by unfold ab_Mf; decide +kernel
theorem mf_X6_pour : ab_Mf m_X6_pour 6 1 6 0 (some .int) := by unfold ab_Mf; decide +kernel
theorem mf_X6_reads : ab_Mf m_X6_reads 6 1 5 0 (some .int) := by unfold ab_Mf; decide +kernel
theorem mf_X6_copy : ab_Mf m_X6_copy 6 5 8 0 (some .int) := by unfold ab_Mf; decide +kernel
theorem mf_X6_lay : ab_Mf m_X6_lay 6 3 6 0 (some .int) := by unfold ab_Mf; decide +kernel
theorem mf_X6_ask : ab_Mf m_X6_ask 6 2 4 0 (some .int) := by unfold ab_Mf; decide +kernel
theorem mf_X6_item : ab_Mf m_X6_item 6 2 4 0 (some .int) := by unfold ab_Mf; decide +kernel
theorem mf_X6_rest : ab_Mf m_X6_rest 6 2 4 0 (some .int) := by unfold ab_Mf; decide +kernel
theorem mf_X6_tell : ab_Mf m_X6_tell 6 1 2 0 (some .int) := by unfold ab_Mf; decide +kernel
theorem mf_X6_check : ab_Mf m_X6_check 6 1 5 0 (some .int) := by unfold ab_Mf; decide +kernel
theorem mf_X6_keep : ab_Mf m_X6_keep 6 0 1 0 (some .int) := by unfold ab_Mf; decide +kernel
theorem mf_X6_back : ab_Mf m_X6_back 6 0 1 0 (some .int) := by unfold ab_Mf; decide +kernel
theorem mf_X6_count : ab_Mf m_X6_count 6 1 2 0 (some .int) := by unfold ab_Mf; decide +kernel
theorem mf_X6_isWithin : ab_Mf m_X6_isWithin 6 3 3 0 (some .boolean) := by unfold ab_Mf; decide +kernel
theorem mf_X6_isSheet : ab_Mf m_X6_isSheet 6 1 1 0 (some .boolean) := by unfold ab_Mf; decide +kernel
theorem mf_X6_isSlot : ab_Mf m_X6_isSlot 6 1 1 0 (some .boolean) := by unfold ab_Mf; decide +kernel
theorem mf_X7_init : ab_Mf m_X7_init 7 0 2 1 none := by unfold ab_Mf; decide +kernel
theorem mf_X7_in : ab_Mf m_X7_in 7 3 3 0 (some .boolean) := by unfold ab_Mf; decide +kernel
theorem mf_X7_within : ab_Mf m_X7_within 7 3 3 0 (some .int) := by unfold ab_Mf; decide +kernel
theorem mf_X7_copyAll : ab_Mf m_X7_copyAll 7 2 3 1 none := by unfold ab_Mf; decide +kernel
theorem mf_X7_bits : ab_Mf m_X7_bits 7 1 3 0 (some .int) := by unfold ab_Mf; decide +kernel
theorem mf_X7_isSaying : ab_Mf m_X7_isSaying 7 1 2 0 (some .boolean) := by unfold ab_Mf; decide +kernel
theorem mf_X7_isCorner : ab_Mf m_X7_isCorner 7 1 1 0 (some .boolean) := by unfold ab_Mf; decide +kernel
theorem mf_X7_of : ab_Mf m_X7_of 7 2 3 0 (some .int) := by unfold ab_Mf; decide +kernel
theorem mf_X7_put : ab_Mf m_X7_put 7 3 4 1 none := by unfold ab_Mf; decide +kernel
theorem mf_X7_swaps : ab_Mf m_X7_swaps 7 2 4 0 (some .int) := by unfold ab_Mf; decide +kernel
theorem mf_X7_off : ab_Mf m_X7_off 7 1 1 0 (some .int) := by unfold ab_Mf; decide +kernel
theorem mf_X7_saidIn : ab_Mf m_X7_saidIn 7 1 4 0 (some .int) := by unfold ab_Mf; decide +kernel
theorem mf_X7_plainBloom : ab_Mf m_X7_plainBloom 7 1 4 0 (some .int) := by unfold ab_Mf; decide +kernel
theorem mf_X7_fellows : ab_Mf m_X7_fellows 7 3 7 0 (some .int) := by unfold ab_Mf; decide +kernel
theorem mf_X7_gathers : ab_Mf m_X7_gathers 7 1 4 0 (some .int) := by unfold ab_Mf; decide +kernel
theorem mf_X7_draws : ab_Mf m_X7_draws 7 1 3 0 (some .int) := by unfold ab_Mf; decide +kernel
theorem mf_X7_worthOf : ab_Mf m_X7_worthOf 7 1 3 0 (some .int) := by unfold ab_Mf; decide +kernel
theorem mf_X7_comes : ab_Mf m_X7_comes 7 4 6 0 (some .int) := by unfold ab_Mf; decide +kernel
theorem mf_X7_saying : ab_Mf m_X7_saying 7 3 4 0 (some .int) := by unfold ab_Mf; decide +kernel
theorem mf_X7_told : ab_Mf m_X7_told 7 2 3 0 (some .int) := by unfold ab_Mf; decide +kernel
theorem mf_X7_isUnder : ab_Mf m_X7_isUnder 7 2 2 0 (some .boolean) := by unfold ab_Mf; decide +kernel
theorem mf_X7_as : ab_Mf m_X7_as 7 2 3 0 (some .int) := by unfold ab_Mf; decide +kernel
theorem mf_X7_turns : ab_Mf m_X7_turns 7 2 3 0 (some .int) := by unfold ab_Mf; decide +kernel
theorem mf_X7_set : ab_Mf m_X7_set 7 3 4 0 (some .int) := by unfold ab_Mf; decide +kernel
theorem mf_X7_moves : ab_Mf m_X7_moves 7 2 3 0 (some .int) := by unfold ab_Mf; decide +kernel
theorem mf_X7_goesOver : ab_Mf m_X7_goesOver 7 1 3 0 (some .int) := by unfold ab_Mf; decide +kernel
theorem mf_X7_dusts : ab_Mf m_X7_dusts 7 1 2 0 (some .int) := by unfold ab_Mf; decide +kernel
theorem mf_X7_heed : ab_Mf m_X7_heed 7 2 3 0 (some .int) := by unfold ab_Mf; decide +kernel
theorem mf_X7_buriedOnes : ab_Mf m_X7_buriedOnes 7 0 3 0 (some .int) := by unfold ab_Mf; decide +kernel
theorem mf_X7_drawn : ab_Mf m_X7_drawn 7 1 5 0 (some .int) := by unfold ab_Mf; decide +kernel
theorem mf_X7_worthIn : ab_Mf m_X7_worthIn 7 1 5 0 (some .int) := by unfold ab_Mf; decide +kernel
theorem mf_X7_cornerOf : ab_Mf m_X7_cornerOf 7 2 3 0 (some .int) := by unfold ab_Mf; decide +kernel
theorem mf_X7_kicks : ab_Mf m_X7_kicks 7 1 2 0 (some .int) := by unfold ab_Mf; decide +kernel
theorem mf_X7_draw : ab_Mf m_X7_draw 7 0 1 0 (some .int) := by unfold ab_Mf; decide +kernel
theorem mf_X7_deal : ab_Mf m_X7_deal 7 1 7 0 (some .int) := by unfold ab_Mf; decide +kernel
theorem mf_X7_seed : ab_Mf m_X7_seed 7 1 2 0 (some .int) := by unfold ab_Mf; decide +kernel
theorem mf_X7_dustiest : ab_Mf m_X7_dustiest 7 1 4 0 (some .int) := by unfold ab_Mf; decide +kernel
theorem mf_X7_maid : ab_Mf m_X7_maid 7 0 5 0 (some .int) := by unfold ab_Mf; decide +kernel
theorem mf_X7_evening : ab_Mf m_X7_evening 7 0 5 1 none := by unfold ab_Mf; decide +kernel
theorem mf_X7_goesOn : ab_Mf m_X7_goesOn 7 1 3 1 none := by unfold ab_Mf; decide +kernel
theorem mf_X7_evenings : ab_Mf m_X7_evenings 7 1 3 0 (some .int) := by unfold ab_Mf; decide +kernel
theorem mf_X7_allDust : ab_Mf m_X7_allDust 7 0 3 0 (some .int) := by unfold ab_Mf; decide +kernel
theorem mf_X7_peopled : ab_Mf m_X7_peopled 7 0 3 0 (some .int) := by unfold ab_Mf; decide +kernel
theorem mf_X7_deafest : ab_Mf m_X7_deafest 7 0 3 0 (some .int) := by unfold ab_Mf; decide +kernel
theorem mf_X7_allHeed : ab_Mf m_X7_allHeed 7 0 3 0 (some .int) := by unfold ab_Mf; decide +kernel
theorem mf_X7_room : ab_Mf m_X7_room 7 1 2 0 (some .int) := by unfold ab_Mf; decide +kernel
theorem mf_X7_thinks : ab_Mf m_X7_thinks 7 0 1 1 none := by unfold ab_Mf; decide +kernel
theorem mf_X7_putsBack : ab_Mf m_X7_putsBack 7 0 1 1 none := by unfold ab_Mf; decide +kernel
theorem mf_X7_behind : ab_Mf m_X7_behind 7 2 4 0 (some .int) := by unfold ab_Mf; decide +kernel
theorem mf_X7_sinks : ab_Mf m_X7_sinks 7 1 3 0 (some .int) := by unfold ab_Mf; decide +kernel
theorem mf_X7_hears : ab_Mf m_X7_hears 7 2 4 0 (some .int) := by unfold ab_Mf; decide +kernel
theorem mf_X7_isBright : ab_Mf m_X7_isBright 7 2 5 0 (some .boolean) := by unfold ab_Mf; decide +kernel
theorem mf_X7_shine : ab_Mf m_X7_shine 7 1 5 0 (some .int) := by unfold ab_Mf; decide +kernel
theorem mf_X7_dustOn : ab_Mf m_X7_dustOn 7 2 4 0 (some .int) := by unfold ab_Mf; decide +kernel
theorem mf_X7_edge : ab_Mf m_X7_edge 7 3 5 0 (some .int) := by unfold ab_Mf; decide +kernel
theorem mf_X7_place : ab_Mf m_X7_place 7 3 8 0 (some .int) := by unfold ab_Mf; decide +kernel
theorem mf_X7_becomes : ab_Mf m_X7_becomes 7 3 8 0 (some .int) := by unfold ab_Mf; decide +kernel
theorem mf_X7_like : ab_Mf m_X7_like 7 2 7 0 (some .int) := by unfold ab_Mf; decide +kernel
theorem mf_X7_fee : ab_Mf m_X7_fee 7 0 2 0 (some .int) := by unfold ab_Mf; decide +kernel
theorem mf_X7_fine : ab_Mf m_X7_fine 7 1 3 0 (some .int) := by unfold ab_Mf; decide +kernel
theorem mf_X7_feed : ab_Mf m_X7_feed 7 3 6 0 (some .int) := by unfold ab_Mf; decide +kernel
theorem mf_X7_trim : ab_Mf m_X7_trim 7 1 2 0 (some .int) := by unfold ab_Mf; decide +kernel
theorem mf_X7_isLetter : ab_Mf m_X7_isLetter 7 1 2 0 (some .boolean) := by unfold ab_Mf; decide +kernel
theorem mf_X7_isFigure : ab_Mf m_X7_isFigure 7 1 2 0 (some .boolean) := by unfold ab_Mf; decide +kernel
theorem mf_X7_go : ab_Mf m_X7_go 7 0 2 1 none := by unfold ab_Mf; decide +kernel
theorem mf_X7_takesKey : ab_Mf m_X7_takesKey 7 0 5 0 (some .boolean) := by unfold ab_Mf; decide +kernel
theorem mf_X7_nameOf : ab_Mf m_X7_nameOf 7 1 2 0 (some .int) := by unfold ab_Mf; decide +kernel
theorem mf_X7_rank : ab_Mf m_X7_rank 7 1 1 0 (some .int) := by unfold ab_Mf; decide +kernel
theorem mf_X7_settle : ab_Mf m_X7_settle 7 1 2 1 none := by unfold ab_Mf; decide +kernel
theorem mf_X7_signHere : ab_Mf m_X7_signHere 7 0 1 0 (some .int) := by unfold ab_Mf; decide +kernel
theorem mf_X7_takesPart : ab_Mf m_X7_takesPart 7 0 2 0 (some .boolean) := by unfold ab_Mf; decide +kernel
theorem mf_X7_takesE : ab_Mf m_X7_takesE 7 0 5 0 (some .boolean) := by unfold ab_Mf; decide +kernel
theorem mf_X7_notsOpen : ab_Mf m_X7_notsOpen 7 0 3 0 (some .int) := by unfold ab_Mf; decide +kernel
theorem mf_X7_text : ab_Mf m_X7_text 7 0 4 0 (some .int) := by unfold ab_Mf; decide +kernel
theorem mf_X7_textTold : ab_Mf m_X7_textTold 7 2 3 0 (some .int) := by unfold ab_Mf; decide +kernel
theorem mf_X7_counts : ab_Mf m_X7_counts 7 1 3 0 (some .int) := by unfold ab_Mf; decide +kernel
theorem mf_X7_why : ab_Mf m_X7_why 7 1 3 0 (some .int) := by unfold ab_Mf; decide +kernel
theorem mf_X7_two : ab_Mf m_X7_two 7 3 3 0 (some .int) := by unfold ab_Mf; decide +kernel
theorem mf_X7_worksOut : ab_Mf m_X7_worksOut 7 1 6 0 (some .int) := by unfold ab_Mf; decide +kernel
theorem mf_X7_isSheet : ab_Mf m_X7_isSheet 7 1 1 0 (some .boolean) := by unfold ab_Mf; decide +kernel
theorem mf_X7_isSlot : ab_Mf m_X7_isSlot 7 1 1 0 (some .boolean) := by unfold ab_Mf; decide +kernel
theorem mf_X7_sheet : ab_Mf m_X7_sheet 7 3 5 0 (some .int) := by unfold ab_Mf; decide +kernel
theorem mf_X7_mark : ab_Mf m_X7_mark 7 3 4 0 (some .int) := by unfold ab_Mf; decide +kernel
theorem mf_X7_pour : ab_Mf m_X7_pour 7 1 6 0 (some .int) := by unfold ab_Mf; decide +kernel
theorem mf_X7_reads : ab_Mf m_X7_reads 7 1 4 0 (some .int) := by unfold ab_Mf; decide +kernel
theorem mf_X7_copy : ab_Mf m_X7_copy 7 5 7 0 (some .int) := by unfold ab_Mf; decide +kernel
theorem mf_X7_lay : ab_Mf m_X7_lay 7 3 6 0 (some .int) := by unfold ab_Mf; decide +kernel
theorem mf_X7_ask : ab_Mf m_X7_ask 7 2 3 0 (some .int) := by unfold ab_Mf; decide +kernel
theorem mf_X7_item : ab_Mf m_X7_item 7 2 4 0 (some .int) := by unfold ab_Mf; decide +kernel
theorem mf_X7_rest : ab_Mf m_X7_rest 7 2 3 0 (some .int) := by unfold ab_Mf; decide +kernel
theorem mf_X7_tell : ab_Mf m_X7_tell 7 1 2 0 (some .int) := by unfold ab_Mf; decide +kernel
theorem mf_X7_check : ab_Mf m_X7_check 7 1 6 0 (some .int) := by unfold ab_Mf; decide +kernel
theorem mf_X7_keep : ab_Mf m_X7_keep 7 0 1 0 (some .int) := by unfold ab_Mf; decide +kernel
theorem mf_X7_back : ab_Mf m_X7_back 7 0 1 0 (some .int) := by unfold ab_Mf; decide +kernel
theorem mf_X7_count : ab_Mf m_X7_count 7 1 2 0 (some .int) := by unfold ab_Mf; decide +kernel
theorem mf_J6_bitCount_0f7a4 : ab_Mf m_J6_bitCount_0f7a4 12 1 1 0 (some .int) := by unfold ab_Mf; decide +kernel
theorem mf_J9_abs_0f7a4 : ab_Mf m_J9_abs_0f7a4 13 1 1 0 (some .int) := by unfold ab_Mf; decide +kernel
theorem mf_J9_max_7cf53 : ab_Mf m_J9_max_7cf53 13 2 2 0 (some .int) := by unfold ab_Mf; decide +kernel
theorem mf_J9_min_7cf53 : ab_Mf m_J9_min_7cf53 13 2 2 0 (some .int) := by unfold ab_Mf; decide +kernel
theorem mf_J0_length_8abf5 : ab_Mf m_J0_length_8abf5 9 0 1 0 (some .int) := by unfold ab_Mf; decide +kernel
theorem mf_J0_charAt_5068e : ab_Mf m_J0_charAt_5068e 9 1 2 0 (some .char) := by unfold ab_Mf; decide +kernel
theorem mf_J0_indexOf_0f7a4 : ab_Mf m_J0_indexOf_0f7a4 9 1 2 0 (some .int) := by unfold ab_Mf; decide +kernel
theorem mf_J0_indexOf_7cf53 : ab_Mf m_J0_indexOf_7cf53 9 2 3 0 (some .int) := by unfold ab_Mf; decide +kernel
theorem mf_J0_coder_7d493 : ab_Mf m_J0_coder_7d493 9 0 1 0 (some .byte) := by unfold ab_Mf; decide +kernel
theorem mf_J0_isLatin1_aae02 : ab_Mf m_J0_isLatin1_aae02 9 0 1 0 (some .boolean) := by unfold ab_Mf; decide +kernel
theorem mf_J0_checkIndex_df160 : ab_Mf m_J0_checkIndex_df160 9 2 2 1 none := by unfold ab_Mf; decide +kernel
theorem mf_J0_checkBoundsBeginEnd_23922 : ab_Mf m_J0_checkBoundsBeginEnd_23922 9 3 3 1 none := by unfold ab_Mf; decide +kernel
theorem mf_J1_charAt_3b067 : ab_Mf m_J1_charAt_3b067 10 2 2 0 (some .char) := by unfold ab_Mf; decide +kernel
theorem mf_J1_canEncode_9a6ad : ab_Mf m_J1_canEncode_9a6ad 10 1 1 0 (some .boolean) := by unfold ab_Mf; decide +kernel
theorem mf_J1_indexOf_4cfef : ab_Mf m_J1_indexOf_4cfef 10 4 4 0 (some .int) := by unfold ab_Mf; decide +kernel
theorem mf_J1_indexOfChar_4cfef : ab_Mf m_J1_indexOfChar_4cfef 10 4 6 0 (some .int) := by unfold ab_Mf; decide +kernel
theorem mf_J3_checkIndex_8e157 : ab_Mf m_J3_checkIndex_8e157 11 3 3 0 (some .int) := by unfold ab_Mf; decide +kernel
theorem mf_J3_checkFromToIndex_8c36e : ab_Mf m_J3_checkFromToIndex_8c36e 11 4 4 0 (some .int) := by unfold ab_Mf; decide +kernel
theorem mf_law : ab_Mf m_law 8 1 4 0 (some .boolean) := by unfold ab_Mf; decide +kernel
theorem lf_1_9 : ab_fl 1 9 = some (1, 0) := by decide +kernel
theorem lf_6_248 : ab_fl 6 248 = some (1, 0) := by decide +kernel
theorem lf_1_13 : ab_fl 1 13 = some (1, 1) := by decide +kernel
theorem lf_6_251 : ab_fl 6 251 = some (1, 1) := by decide +kernel
theorem lf_1_16 : ab_fl 1 16 = some (1, 2) := by decide +kernel
theorem lf_1_23 : ab_fl 1 23 = some (1, 3) := by decide +kernel
theorem lf_1_26 : ab_fl 1 26 = some (1, 4) := by decide +kernel
theorem lf_1_29 : ab_fl 1 29 = some (1, 5) := by decide +kernel
theorem lf_2_39 : ab_fl 2 39 = some (2, 0) := by decide +kernel
theorem lf_2_11 : ab_fl 2 11 = some (2, 1) := by decide +kernel
theorem lf_6_80 : ab_fl 6 80 = some (2, 1) := by decide +kernel
theorem lf_2_15 : ab_fl 2 15 = some (2, 2) := by decide +kernel
theorem lf_6_83 : ab_fl 6 83 = some (2, 2) := by decide +kernel
theorem lf_2_18 : ab_fl 2 18 = some (2, 3) := by decide +kernel
theorem lf_6_86 : ab_fl 6 86 = some (2, 3) := by decide +kernel
theorem lf_2_21 : ab_fl 2 21 = some (2, 4) := by decide +kernel
theorem lf_6_89 : ab_fl 6 89 = some (2, 4) := by decide +kernel
theorem lf_2_24 : ab_fl 2 24 = some (2, 5) := by decide +kernel
theorem lf_6_92 : ab_fl 6 92 = some (2, 5) := by decide +kernel
theorem lf_2_27 : ab_fl 2 27 = some (2, 6) := by decide +kernel
theorem lf_6_114 : ab_fl 6 114 = some (2, 6) := by decide +kernel
theorem lf_2_32 : ab_fl 2 32 = some (2, 7) := by decide +kernel
theorem lf_6_242 : ab_fl 6 242 = some (2, 7) := by decide +kernel
theorem lf_2_63 : ab_fl 2 63 = some (2, 8) := by decide +kernel
theorem lf_6_181 : ab_fl 6 181 = some (2, 8) := by decide +kernel
theorem lf_2_66 : ab_fl 2 66 = some (2, 9) := by decide +kernel
theorem lf_6_235 : ab_fl 6 235 = some (2, 9) := by decide +kernel
theorem lf_2_69 : ab_fl 2 69 = some (2, 10) := by decide +kernel
theorem lf_6_135 : ab_fl 6 135 = some (2, 10) := by decide +kernel
theorem lf_2_72 : ab_fl 2 72 = some (2, 11) := by decide +kernel
theorem lf_6_149 : ab_fl 6 149 = some (2, 11) := by decide +kernel
theorem lf_2_75 : ab_fl 2 75 = some (2, 12) := by decide +kernel
theorem lf_6_158 : ab_fl 6 158 = some (2, 12) := by decide +kernel
theorem lf_2_78 : ab_fl 2 78 = some (2, 13) := by decide +kernel
theorem lf_6_152 : ab_fl 6 152 = some (2, 13) := by decide +kernel
theorem lf_2_35 : ab_fl 2 35 = some (2, 14) := by decide +kernel
theorem lf_6_146 : ab_fl 6 146 = some (2, 14) := by decide +kernel
theorem lf_5_9 : ab_fl 5 9 = some (5, 0) := by decide +kernel
theorem lf_5_16 : ab_fl 5 16 = some (5, 1) := by decide +kernel
theorem lf_6_228 : ab_fl 6 228 = some (5, 1) := by decide +kernel
theorem lf_5_43 : ab_fl 5 43 = some (5, 2) := by decide +kernel
theorem lf_6_232 : ab_fl 6 232 = some (5, 2) := by decide +kernel
theorem lf_5_20 : ab_fl 5 20 = some (5, 3) := by decide +kernel
theorem lf_5_23 : ab_fl 5 23 = some (5, 4) := by decide +kernel
theorem lf_1_50 : ab_fl 1 50 = some (5, 5) := by decide +kernel
theorem lf_5_71 : ab_fl 5 71 = some (5, 5) := by decide +kernel
theorem lf_6_245 : ab_fl 6 245 = some (5, 5) := by decide +kernel
theorem lf_5_26 : ab_fl 5 26 = some (5, 6) := by decide +kernel
theorem lf_1_54 : ab_fl 1 54 = some (5, 6) := by decide +kernel
theorem lf_5_29 : ab_fl 5 29 = some (5, 7) := by decide +kernel
theorem lf_1_56 : ab_fl 1 56 = some (5, 7) := by decide +kernel
theorem lf_5_13 : ab_fl 5 13 = some (5, 8) := by decide +kernel
theorem lf_1_59 : ab_fl 1 59 = some (5, 8) := by decide +kernel
theorem lf_3_11 : ab_fl 3 11 = some (3, 0) := by decide +kernel
theorem lf_6_208 : ab_fl 6 208 = some (3, 0) := by decide +kernel
theorem lf_3_15 : ab_fl 3 15 = some (3, 1) := by decide +kernel
theorem lf_6_261 : ab_fl 6 261 = some (3, 1) := by decide +kernel
theorem lf_3_19 : ab_fl 3 19 = some (3, 2) := by decide +kernel
theorem lf_6_204 : ab_fl 6 204 = some (3, 2) := by decide +kernel
theorem lf_4_10 : ab_fl 4 10 = some (4, 0) := by decide +kernel
theorem lf_6_288 : ab_fl 6 288 = some (4, 0) := by decide +kernel
theorem lf_4_16 : ab_fl 4 16 = some (4, 1) := by decide +kernel
theorem lf_6_281 : ab_fl 6 281 = some (4, 1) := by decide +kernel
theorem lf_6_294 : ab_fl 6 294 = some (4, 2) := by decide +kernel
theorem lf_4_20 : ab_fl 4 20 = some (4, 3) := by decide +kernel
theorem lf_6_297 : ab_fl 6 297 = some (4, 3) := by decide +kernel
theorem lf_4_23 : ab_fl 4 23 = some (4, 4) := by decide +kernel
theorem lf_6_299 : ab_fl 6 299 = some (4, 4) := by decide +kernel
theorem lf_4_26 : ab_fl 4 26 = some (4, 5) := by decide +kernel
theorem lf_6_301 : ab_fl 6 301 = some (4, 5) := by decide +kernel
theorem lf_6_10 : ab_fl 6 10 = some (6, 0) := by decide +kernel
theorem lf_6_21 : ab_fl 6 21 = some (6, 1) := by decide +kernel
theorem lf_6_25 : ab_fl 6 25 = some (6, 2) := by decide +kernel
theorem lf_6_28 : ab_fl 6 28 = some (6, 3) := by decide +kernel
theorem lf_6_34 : ab_fl 6 34 = some (6, 4) := by decide +kernel
theorem lf_6_40 : ab_fl 6 40 = some (6, 5) := by decide +kernel
theorem lf_6_47 : ab_fl 6 47 = some (6, 6) := by decide +kernel
theorem lf_6_52 : ab_fl 6 52 = some (6, 7) := by decide +kernel
theorem lf_6_56 : ab_fl 6 56 = some (6, 8) := by decide +kernel
theorem lf_6_310 : ab_fl 6 310 = some (6, 9) := by decide +kernel
theorem lf_6_307 : ab_fl 6 307 = some (6, 10) := by decide +kernel
theorem lf_7_9 : ab_fl 7 9 = some (7, 0) := by decide +kernel
theorem lf_7_13 : ab_fl 7 13 = some (7, 1) := by decide +kernel
theorem lf_7_16 : ab_fl 7 16 = some (7, 2) := by decide +kernel
theorem lf_7_285 : ab_fl 7 285 = some (7, 3) := by decide +kernel
theorem lf_7_19 : ab_fl 7 19 = some (7, 4) := by decide +kernel
theorem lf_7_22 : ab_fl 7 22 = some (7, 5) := by decide +kernel
theorem lf_7_206 : ab_fl 7 206 = some (7, 6) := by decide +kernel
theorem lf_7_210 : ab_fl 7 210 = some (7, 7) := by decide +kernel
theorem lf_7_213 : ab_fl 7 213 = some (7, 8) := by decide +kernel
theorem lf_7_219 : ab_fl 7 219 = some (7, 9) := by decide +kernel
theorem lf_7_225 : ab_fl 7 225 = some (7, 10) := by decide +kernel
theorem lf_7_216 : ab_fl 7 216 = some (7, 11) := by decide +kernel
theorem lf_7_231 : ab_fl 7 231 = some (7, 12) := by decide +kernel
theorem lf_7_25 : ab_fl 7 25 = some (7, 13) := by decide +kernel
theorem lf_7_29 : ab_fl 7 29 = some (7, 14) := by decide +kernel
theorem lf_7_32 : ab_fl 7 32 = some (7, 15) := by decide +kernel
theorem lf_7_243 : ab_fl 7 243 = some (7, 16) := by decide +kernel
theorem lf_7_249 : ab_fl 7 249 = some (7, 17) := by decide +kernel
theorem lf_7_35 : ab_fl 7 35 = some (7, 18) := by decide +kernel
theorem lf_7_237 : ab_fl 7 237 = some (7, 19) := by decide +kernel
theorem lf_7_38 : ab_fl 7 38 = some (7, 20) := by decide +kernel
theorem lf_7_42 : ab_fl 7 42 = some (7, 21) := by decide +kernel
theorem lf_7_45 : ab_fl 7 45 = some (7, 22) := by decide +kernel
theorem lf_7_48 : ab_fl 7 48 = some (7, 23) := by decide +kernel
theorem lf_7_51 : ab_fl 7 51 = some (7, 24) := by decide +kernel
theorem lf_7_54 : ab_fl 7 54 = some (7, 25) := by decide +kernel
theorem lf_7_57 : ab_fl 7 57 = some (7, 26) := by decide +kernel
theorem lf_7_60 : ab_fl 7 60 = some (7, 27) := by decide +kernel
theorem lf_7_63 : ab_fl 7 63 = some (7, 28) := by decide +kernel
theorem lf_7_66 : ab_fl 7 66 = some (7, 29) := by decide +kernel
theorem lf_7_69 : ab_fl 7 69 = some (7, 30) := by decide +kernel
theorem lf_7_72 : ab_fl 7 72 = some (7, 31) := by decide +kernel
theorem lf_7_282 : ab_fl 7 282 = some (7, 32) := by decide +kernel
theorem pf_2_8 : 8 < ab_N 2 ∧ (ab_T 2 8).2.2.2 = false ∧ ab_ty 2 8 = .int := by decide +kernel
theorem pf_2_9 : 9 < ab_N 2 ∧ (ab_T 2 9).2.2.2 = false ∧ ab_ty 2 9 = .int := by decide +kernel
theorem pf_2_10 : 10 < ab_N 2 ∧ (ab_T 2 10).2.2.2 = false ∧ ab_ty 2 10 = .int := by decide +kernel
theorem pf_2_11 : 11 < ab_N 2 ∧ (ab_T 2 11).2.2.2 = false ∧ ab_ty 2 11 = .int := by decide +kernel
theorem pf_2_12 : 12 < ab_N 2 ∧ (ab_T 2 12).2.2.2 = false ∧ ab_ty 2 12 = .int := by decide +kernel
theorem pf_2_13 : 13 < ab_N 2 ∧ (ab_T 2 13).2.2.2 = false ∧ ab_ty 2 13 = .int := by decide +kernel
theorem pf_2_14 : 14 < ab_N 2 ∧ (ab_T 2 14).2.2.2 = false ∧ ab_ty 2 14 = .int := by decide +kernel
theorem pf_3_1 : 1 < ab_N 3 ∧ (ab_T 3 1).2.2.2 = false ∧ ab_ty 3 1 = .int := by decide +kernel
theorem pf_3_2 : 2 < ab_N 3 ∧ (ab_T 3 2).2.2.2 = false ∧ ab_ty 3 2 = .int := by decide +kernel
theorem pf_4_1 : 1 < ab_N 4 ∧ (ab_T 4 1).2.2.2 = false ∧ ab_ty 4 1 = .int := by decide +kernel
theorem pf_4_2 : 2 < ab_N 4 ∧ (ab_T 4 2).2.2.2 = false ∧ ab_ty 4 2 = .int := by decide +kernel
theorem pf_4_3 : 3 < ab_N 4 ∧ (ab_T 4 3).2.2.2 = false ∧ ab_ty 4 3 = .int := by decide +kernel
theorem pf_4_4 : 4 < ab_N 4 ∧ (ab_T 4 4).2.2.2 = false ∧ ab_ty 4 4 = .int := by decide +kernel
theorem pf_4_5 : 5 < ab_N 4 ∧ (ab_T 4 5).2.2.2 = false ∧ ab_ty 4 5 = .int := by decide +kernel
theorem pf_5_1 : 1 < ab_N 5 ∧ (ab_T 5 1).2.2.2 = false ∧ ab_ty 5 1 = .int := by decide +kernel
theorem pf_5_2 : 2 < ab_N 5 ∧ (ab_T 5 2).2.2.2 = false ∧ ab_ty 5 2 = .int := by decide +kernel
theorem pf_5_3 : 3 < ab_N 5 ∧ (ab_T 5 3).2.2.2 = false ∧ ab_ty 5 3 = .int := by decide +kernel
theorem pf_5_4 : 4 < ab_N 5 ∧ (ab_T 5 4).2.2.2 = false ∧ ab_ty 5 4 = .int := by decide +kernel
theorem pf_5_5 : 5 < ab_N 5 ∧ (ab_T 5 5).2.2.2 = false ∧ ab_ty 5 5 = .int := by decide +kernel
theorem pf_5_6 : 6 < ab_N 5 ∧ (ab_T 5 6).2.2.2 = false ∧ ab_ty 5 6 = .int := by decide +kernel
theorem pf_5_7 : 7 < ab_N 5 ∧ (ab_T 5 7).2.2.2 = false ∧ ab_ty 5 7 = .int := by decide +kernel
theorem pz_6_9 : 9 < ab_N 6 ∧ (ab_T 6 9).2.2.2 = false ∧ narrow (ab_ty 6 9) (.int 1) = .int 1 ∧ fits (ab_ty 6 9) (.int 1) = true := by decide +kernel
theorem pf_6_10 : 10 < ab_N 6 ∧ (ab_T 6 10).2.2.2 = false ∧ ab_ty 6 10 = .int := by decide +kernel
theorem pz_7_3 : 3 < ab_N 7 ∧ (ab_T 7 3).2.2.2 = false ∧ narrow (ab_ty 7 3) (.int 1) = .int 1 ∧ fits (ab_ty 7 3) (.int 1) = true := by decide +kernel
theorem pf_7_6 : 6 < ab_N 7 ∧ (ab_T 7 6).2.2.2 = false ∧ ab_ty 7 6 = .int := by decide +kernel
theorem pf_7_7 : 7 < ab_N 7 ∧ (ab_T 7 7).2.2.2 = false ∧ ab_ty 7 7 = .int := by decide +kernel
theorem pf_7_8 : 8 < ab_N 7 ∧ (ab_T 7 8).2.2.2 = false ∧ ab_ty 7 8 = .int := by decide +kernel
theorem pf_7_9 : 9 < ab_N 7 ∧ (ab_T 7 9).2.2.2 = false ∧ ab_ty 7 9 = .int := by decide +kernel
theorem pf_7_10 : 10 < ab_N 7 ∧ (ab_T 7 10).2.2.2 = false ∧ ab_ty 7 10 = .int := by decide +kernel
theorem pf_7_11 : 11 < ab_N 7 ∧ (ab_T 7 11).2.2.2 = false ∧ ab_ty 7 11 = .int := by decide +kernel
theorem pf_7_12 : 12 < ab_N 7 ∧ (ab_T 7 12).2.2.2 = false ∧ ab_ty 7 12 = .int := by decide +kernel
theorem pf_7_16 : 16 < ab_N 7 ∧ (ab_T 7 16).2.2.2 = false ∧ ab_ty 7 16 = .int := by decide +kernel
theorem pf_7_17 : 17 < ab_N 7 ∧ (ab_T 7 17).2.2.2 = false ∧ ab_ty 7 17 = .int := by decide +kernel
theorem pf_7_19 : 19 < ab_N 7 ∧ (ab_T 7 19).2.2.2 = false ∧ ab_ty 7 19 = .int := by decide +kernel
theorem pf_7_32 : 32 < ab_N 7 ∧ (ab_T 7 32).2.2.2 = false ∧ ab_ty 7 32 = .int := by decide +kernel
theorem kc_2_43 : ab_kc 2 43 = some (-1000000005) := by decide +kernel
theorem kc_6_72 : ab_kc 6 72 = some (-1000000001) := by decide +kernel
theorem kc_2_85 : ab_kc 2 85 = some (-1000000003) := by decide +kernel
theorem kc_12_265 : ab_kc 12 265 = some (1431655765) := by decide +kernel
theorem kc_12_266 : ab_kc 12 266 = some (858993459) := by decide +kernel
theorem kc_12_267 : ab_kc 12 267 = some (252645135) := by decide +kernel
theorem kc_6_109 : ab_kc 6 109 = some (-1000000012) := by decide +kernel
theorem kc_2_96 : ab_kc 2 96 = some (1103515245) := by decide +kernel
theorem kc_6_180 : ab_kc 6 180 = some (-1000000005) := by decide +kernel
theorem kc_6_199 : ab_kc 6 199 = some (-1000000011) := by decide +kernel
theorem kc_3_32 : ab_kc 3 32 = some (-1000000005) := by decide +kernel
theorem kc_6_225 : ab_kc 6 225 = some (-1000000003) := by decide +kernel
theorem kc_6_258 : ab_kc 6 258 = some (-1000000014) := by decide +kernel
theorem kc_6_260 : ab_kc 6 260 = some (-1000000013) := by decide +kernel
theorem kc_6_264 : ab_kc 6 264 = some (-99999) := by decide +kernel
theorem kc_6_265 : ab_kc 6 265 = some (99999) := by decide +kernel
theorem kc_6_306 : ab_kc 6 306 = some (-1000000002) := by decide +kernel
theorem kc_7_114 : ab_kc 7 114 = some (-1000000001) := by decide +kernel
theorem kc_7_115 : ab_kc 7 115 = some (-1000000003) := by decide +kernel
theorem kc_7_136 : ab_kc 7 136 = some (-1000000012) := by decide +kernel
theorem kc_7_153 : ab_kc 7 153 = some (1103515245) := by decide +kernel
theorem kc_7_189 : ab_kc 7 189 = some (-1000000005) := by decide +kernel
theorem kc_7_202 : ab_kc 7 202 = some (-1000000011) := by decide +kernel
theorem kc_7_274 : ab_kc 7 274 = some (-1000000014) := by decide +kernel
theorem kc_7_275 : ab_kc 7 275 = some (-1000000013) := by decide +kernel
theorem kc_7_276 : ab_kc 7 276 = some (-99999) := by decide +kernel
theorem kc_7_277 : ab_kc 7 277 = some (99999) := by decide +kernel
theorem kc_7_281 : ab_kc 7 281 = some (-1000000002) := by decide +kernel
theorem ks_1_38 : ab_kc 1 38 = none ∧ ab_ks 1 38 = some 0 ∧ 0 < 14 := by decide +kernel
theorem ks_1_40 : ab_kc 1 40 = none ∧ ab_ks 1 40 = some 1 ∧ 1 < 14 := by decide +kernel
theorem ks_1_42 : ab_kc 1 42 = none ∧ ab_ks 1 42 = some 2 ∧ 2 < 14 := by decide +kernel
theorem ks_1_32 : ab_kc 1 32 = none ∧ ab_ks 1 32 = some 3 ∧ 3 < 14 := by decide +kernel
theorem ks_1_34 : ab_kc 1 34 = none ∧ ab_ks 1 34 = some 4 ∧ 4 < 14 := by decide +kernel
theorem ks_1_36 : ab_kc 1 36 = none ∧ ab_ks 1 36 = some 5 ∧ 5 < 14 := by decide +kernel
theorem ks_5_112 : ab_kc 5 112 = none ∧ ab_ks 5 112 = some 6 ∧ 6 < 14 := by decide +kernel
theorem ks_5_114 : ab_kc 5 114 = none ∧ ab_ks 5 114 = some 7 ∧ 7 < 14 := by decide +kernel
theorem ks_5_119 : ab_kc 5 119 = none ∧ ab_ks 5 119 = some 8 ∧ 8 < 14 := by decide +kernel
theorem ks_5_82 : ab_kc 5 82 = none ∧ ab_ks 5 82 = some 9 ∧ 9 < 14 := by decide +kernel
theorem ks_5_84 : ab_kc 5 84 = none ∧ ab_ks 5 84 = some 10 ∧ 10 < 14 := by decide +kernel
theorem ks_5_86 : ab_kc 5 86 = none ∧ ab_ks 5 86 = some 11 ∧ 11 < 14 := by decide +kernel
theorem ks_5_88 : ab_kc 5 88 = none ∧ ab_ks 5 88 = some 12 ∧ 12 < 14 := by decide +kernel
theorem ks_5_90 : ab_kc 5 90 = none ∧ ab_ks 5 90 = some 13 ∧ 13 < 14 := by decide +kernel
theorem lv_8_13 : ab_mk ab_mlV 8 13 = some m_X6_saying := by decide +kernel
theorem lv_6_73 : ab_mk ab_mlV 6 73 = some m_X2_add := by decide +kernel
theorem lv_2_81 : ab_mk ab_mlV 2 81 = some m_X2_isFull := by decide +kernel
theorem lv_8_18 : ab_mk ab_mlV 8 18 = some m_X6_told := by decide +kernel
theorem lv_6_77 : ab_mk ab_mlV 6 77 = some m_X2_has := by decide +kernel
theorem lv_6_95 : ab_mk ab_mlV 6 95 = some m_X2_gathers := by decide +kernel
theorem lv_2_128 : ab_mk ab_mlV 2 128 = some m_X2_plainBloom := by decide +kernel
theorem lv_2_134 : ab_mk ab_mlV 2 134 = some m_X2_sayingsIn := by decide +kernel
theorem lv_2_142 : ab_mk ab_mlV 2 142 = some m_X1_name := by decide +kernel
theorem lv_2_146 : ab_mk ab_mlV 2 146 = some m_X1_value := by decide +kernel
theorem lv_1_67 : ab_mk ab_mlV 1 67 = some m_X1_leaf := by decide +kernel
theorem lv_2_131 : ab_mk ab_mlV 2 131 = some m_X2_othersBeside := by decide +kernel
theorem lv_6_99 : ab_mk ab_mlV 6 99 = some m_X2_draws := by decide +kernel
theorem lv_6_102 : ab_mk ab_mlV 6 102 = some m_X2_worth := by decide +kernel
theorem lv_8_23 : ab_mk ab_mlV 8 23 = some m_X6_as := by decide +kernel
theorem lv_8_27 : ab_mk ab_mlV 8 27 = some m_X6_turns := by decide +kernel
theorem lv_8_31 : ab_mk ab_mlV 8 31 = some m_X6_set := by decide +kernel
theorem lv_8_35 : ab_mk ab_mlV 8 35 = some m_X6_moves := by decide +kernel
theorem lv_8_39 : ab_mk ab_mlV 8 39 = some m_X6_dusts := by decide +kernel
theorem lv_6_110 : ab_mk ab_mlV 6 110 = some m_X2_goOver := by decide +kernel
theorem lv_8_44 : ab_mk ab_mlV 8 44 = some m_X6_heed := by decide +kernel
theorem lv_8_48 : ab_mk ab_mlV 8 48 = some m_X6_cornerOf := by decide +kernel
theorem lv_6_117 : ab_mk ab_mlV 6 117 = some m_X2_sayingsIn := by decide +kernel
theorem lv_6_120 : ab_mk ab_mlV 6 120 = some m_X2_worthIn := by decide +kernel
theorem lv_2_153 : ab_mk ab_mlV 2 153 = some m_X2_worth := by decide +kernel
theorem lv_6_123 : ab_mk ab_mlV 6 123 = some m_X2_buried := by decide +kernel
theorem lv_2_108 : ab_mk ab_mlV 2 108 = some m_X2_isBuried := by decide +kernel
theorem lv_6_132 : ab_mk ab_mlV 6 132 = some m_X2_drawnIn := by decide +kernel
theorem lv_2_155 : ab_mk ab_mlV 2 155 = some m_X2_draws := by decide +kernel
theorem lv_8_52 : ab_mk ab_mlV 8 52 = some m_X6_kicks := by decide +kernel
theorem lv_8_56 : ab_mk ab_mlV 8 56 = some m_X6_deal := by decide +kernel
theorem lv_6_139 : ab_mk ab_mlV 6 139 = some m_X2_isFull := by decide +kernel
theorem lv_6_143 : ab_mk ab_mlV 6 143 = some m_X2_addByLot := by decide +kernel
theorem lv_2_86 : ab_mk ab_mlV 2 86 = some m_X2_draw := by decide +kernel
theorem lv_2_92 : ab_mk ab_mlV 2 92 = some m_X2_add := by decide +kernel
theorem lv_8_60 : ab_mk ab_mlV 8 60 = some m_X6_seed := by decide +kernel
theorem lv_8_64 : ab_mk ab_mlV 8 64 = some m_X6_evenings := by decide +kernel
theorem lv_6_155 : ab_mk ab_mlV 6 155 = some m_X2_passEvening := by decide +kernel
theorem lv_2_100 : ab_mk ab_mlV 2 100 = some m_X2_dustiestIn := by decide +kernel
theorem lv_2_104 : ab_mk ab_mlV 2 104 = some m_X2_goOver := by decide +kernel
theorem lv_2_112 : ab_mk ab_mlV 2 112 = some m_X2_gathers := by decide +kernel
theorem lv_2_115 : ab_mk ab_mlV 2 115 = some m_X2_drawnIn := by decide +kernel
theorem lv_2_121 : ab_mk ab_mlV 2 121 = some m_X2_kickByChance := by decide +kernel
theorem lv_8_68 : ab_mk ab_mlV 8 68 = some m_X6_room := by decide +kernel
theorem lv_6_161 : ab_mk ab_mlV 6 161 = some m_X2_allDust := by decide +kernel
theorem lv_6_164 : ab_mk ab_mlV 6 164 = some m_X2_cornersWithSayings := by decide +kernel
theorem lv_6_167 : ab_mk ab_mlV 6 167 = some m_X2_deafest := by decide +kernel
theorem lv_8_72 : ab_mk ab_mlV 8 72 = some m_X6_behind := by decide +kernel
theorem lv_6_170 : ab_mk ab_mlV 6 170 = some m_X2_become := by decide +kernel
theorem lv_6_174 : ab_mk ab_mlV 6 174 = some m_X2_passEvenings := by decide +kernel
theorem lv_2_97 : ab_mk ab_mlV 2 97 = some m_X2_passEvening := by decide +kernel
theorem lv_8_76 : ab_mk ab_mlV 8 76 = some m_X6_sinks := by decide +kernel
theorem lv_6_177 : ab_mk ab_mlV 6 177 = some m_X2_isBuried := by decide +kernel
theorem lv_8_80 : ab_mk ab_mlV 8 80 = some m_X6_hears := by decide +kernel
theorem lv_8_84 : ab_mk ab_mlV 8 84 = some m_X6_shine := by decide +kernel
theorem lv_6_184 : ab_mk ab_mlV 6 184 = some m_X6_isEnoughShine := by decide +kernel
theorem lv_6_187 : ab_mk ab_mlV 6 187 = some m_X2_brighten := by decide +kernel
theorem lv_8_88 : ab_mk ab_mlV 8 88 = some m_X6_edge := by decide +kernel
theorem lv_8_92 : ab_mk ab_mlV 8 92 = some m_X6_place := by decide +kernel
theorem lv_8_96 : ab_mk ab_mlV 8 96 = some m_X6_becomes := by decide +kernel
theorem lv_6_190 : ab_mk ab_mlV 6 190 = some m_X2_allHeed := by decide +kernel
theorem lv_8_100 : ab_mk ab_mlV 8 100 = some m_X6_like := by decide +kernel
theorem lv_6_196 : ab_mk ab_mlV 6 196 = some m_X3_isMissing := by decide +kernel
theorem lv_6_200 : ab_mk ab_mlV 6 200 = some m_X6_gatherDifferences := by decide +kernel
theorem lv_6_205 : ab_mk ab_mlV 6 205 = some m_X3_isNumber := by decide +kernel
theorem lv_8_104 : ab_mk ab_mlV 8 104 = some m_X6_fee := by decide +kernel
theorem lv_6_216 : ab_mk ab_mlV 6 216 = some m_X2_feeGiven := by decide +kernel
theorem lv_8_109 : ab_mk ab_mlV 8 109 = some m_X6_fine := by decide +kernel
theorem lv_6_219 : ab_mk ab_mlV 6 219 = some m_X2_fineGiven := by decide +kernel
theorem lv_8_113 : ab_mk ab_mlV 8 113 = some m_X6_feed := by decide +kernel
theorem lv_6_222 : ab_mk ab_mlV 6 222 = some m_X5_hasRoom := by decide +kernel
theorem lv_6_226 : ab_mk ab_mlV 6 226 = some m_X5_add := by decide +kernel
theorem lv_8_117 : ab_mk ab_mlV 8 117 = some m_X6_trim := by decide +kernel
theorem lv_8_121 : ab_mk ab_mlV 8 121 = some m_X6_text := by decide +kernel
theorem lv_6_229 : ab_mk ab_mlV 6 229 = some m_X5_isText := by decide +kernel
theorem lv_5_32 : ab_mk ab_mlV 5 32 = some m_X5_pass := by decide +kernel
theorem lv_5_46 : ab_mk ab_mlV 5 46 = some m_X5_sortAt := by decide +kernel
theorem lv_5_35 : ab_mk ab_mlV 5 35 = some m_X5_readKey := by decide +kernel
theorem lv_5_67 : ab_mk ab_mlV 5 67 = some m_X5_isWord := by decide +kernel
theorem lv_5_74 : ab_mk ab_mlV 5 74 = some m_J0_length_8abf5 := by decide +kernel
theorem lv_9_335 : ab_mk ab_mlV 9 335 = some m_J0_coder_7d493 := by decide +kernel
theorem lv_5_78 : ab_mk ab_mlV 5 78 = some m_J0_charAt_5068e := by decide +kernel
theorem lv_9_492 : ab_mk ab_mlV 9 492 = some m_J0_isLatin1_aae02 := by decide +kernel
theorem lv_5_39 : ab_mk ab_mlV 5 39 = some m_X5_readJoined := by decide +kernel
theorem lv_5_92 : ab_mk ab_mlV 5 92 = some m_X5_readPiece := by decide +kernel
theorem lv_5_106 : ab_mk ab_mlV 5 106 = some m_X5_readNumber := by decide +kernel
theorem lv_5_121 : ab_mk ab_mlV 5 121 = some m_X5_writeLeaf := by decide +kernel
theorem lv_5_102 : ab_mk ab_mlV 5 102 = some m_X5_write := by decide +kernel
theorem lv_5_109 : ab_mk ab_mlV 5 109 = some m_X5_readName := by decide +kernel
theorem lv_5_56 : ab_mk ab_mlV 5 56 = some m_J0_indexOf_0f7a4 := by decide +kernel
theorem lv_9_633 : ab_mk ab_mlV 9 633 = some m_J0_indexOf_7cf53 := by decide +kernel
theorem lv_9_505 : ab_mk ab_mlV 9 505 = some m_J0_length_8abf5 := by decide +kernel
theorem lv_5_99 : ab_mk ab_mlV 5 99 = some m_X5_isSignOf := by decide +kernel
theorem lv_5_116 : ab_mk ab_mlV 5 116 = some m_X5_readClosing := by decide +kernel
theorem lv_6_238 : ab_mk ab_mlV 6 238 = some m_X1_write := by decide +kernel
theorem lv_8_125 : ab_mk ab_mlV 8 125 = some m_X6_textTold := by decide +kernel
theorem lv_8_129 : ab_mk ab_mlV 8 129 = some m_X6_why := by decide +kernel
theorem lv_8_133 : ab_mk ab_mlV 8 133 = some m_X6_sheet := by decide +kernel
theorem lv_6_254 : ab_mk ab_mlV 6 254 = some m_X3_begin := by decide +kernel
theorem lv_8_137 : ab_mk ab_mlV 8 137 = some m_X6_mark := by decide +kernel
theorem lv_6_259 : ab_mk ab_mlV 6 259 = some m_X3_has := by decide +kernel
theorem lv_8_141 : ab_mk ab_mlV 8 141 = some m_X6_pour := by decide +kernel
theorem lv_8_145 : ab_mk ab_mlV 8 145 = some m_X6_reads := by decide +kernel
theorem lv_8_149 : ab_mk ab_mlV 8 149 = some m_X6_copy := by decide +kernel
theorem lv_6_269 : ab_mk ab_mlV 6 269 = some m_X3_hasRun := by decide +kernel
theorem lv_8_154 : ab_mk ab_mlV 8 154 = some m_X6_lay := by decide +kernel
theorem lv_6_284 : ab_mk ab_mlV 6 284 = some m_X4_holdSaying := by decide +kernel
theorem lv_6_292 : ab_mk ab_mlV 6 292 = some m_X3_become := by decide +kernel
theorem lv_8_158 : ab_mk ab_mlV 8 158 = some m_X6_ask := by decide +kernel
theorem lv_8_162 : ab_mk ab_mlV 8 162 = some m_X6_item := by decide +kernel
theorem lv_8_166 : ab_mk ab_mlV 8 166 = some m_X6_rest := by decide +kernel
theorem lv_8_170 : ab_mk ab_mlV 8 170 = some m_X6_tell := by decide +kernel
theorem lv_8_174 : ab_mk ab_mlV 8 174 = some m_X6_check := by decide +kernel
theorem lv_8_178 : ab_mk ab_mlV 8 178 = some m_X6_keep := by decide +kernel
theorem lv_8_182 : ab_mk ab_mlV 8 182 = some m_X6_back := by decide +kernel
theorem lv_8_186 : ab_mk ab_mlV 8 186 = some m_X6_count := by decide +kernel
theorem lv_8_17 : ab_mk ab_mlV 8 17 = some m_X7_saying := by decide +kernel
theorem lv_7_116 : ab_mk ab_mlV 7 116 = some m_X7_comes := by decide +kernel
theorem lv_7_106 : ab_mk ab_mlV 7 106 = some m_X7_put := by decide +kernel
theorem lv_8_22 : ab_mk ab_mlV 8 22 = some m_X7_told := by decide +kernel
theorem lv_7_120 : ab_mk ab_mlV 7 120 = some m_X7_isSaying := by decide +kernel
theorem lv_7_79 : ab_mk ab_mlV 7 79 = some m_X7_of := by decide +kernel
theorem lv_7_123 : ab_mk ab_mlV 7 123 = some m_X7_gathers := by decide +kernel
theorem lv_7_100 : ab_mk ab_mlV 7 100 = some m_X7_plainBloom := by decide +kernel
theorem lv_7_83 : ab_mk ab_mlV 7 83 = some m_X7_counts := by decide +kernel
theorem lv_7_87 : ab_mk ab_mlV 7 87 = some m_X7_saidIn := by decide +kernel
theorem lv_7_93 : ab_mk ab_mlV 7 93 = some m_X7_worksOut := by decide +kernel
theorem lv_7_103 : ab_mk ab_mlV 7 103 = some m_X7_fellows := by decide +kernel
theorem lv_7_126 : ab_mk ab_mlV 7 126 = some m_X7_draws := by decide +kernel
theorem lv_7_129 : ab_mk ab_mlV 7 129 = some m_X7_worthOf := by decide +kernel
theorem lv_8_26 : ab_mk ab_mlV 8 26 = some m_X7_as := by decide +kernel
theorem lv_8_30 : ab_mk ab_mlV 8 30 = some m_X7_turns := by decide +kernel
theorem lv_7_137 : ab_mk ab_mlV 7 137 = some m_X7_swaps := by decide +kernel
theorem lv_8_34 : ab_mk ab_mlV 8 34 = some m_X7_set := by decide +kernel
theorem lv_8_38 : ab_mk ab_mlV 8 38 = some m_X7_moves := by decide +kernel
theorem lv_8_43 : ab_mk ab_mlV 8 43 = some m_X7_dusts := by decide +kernel
theorem lv_7_140 : ab_mk ab_mlV 7 140 = some m_X7_goesOver := by decide +kernel
theorem lv_8_47 : ab_mk ab_mlV 8 47 = some m_X7_heed := by decide +kernel
theorem lv_8_51 : ab_mk ab_mlV 8 51 = some m_X7_cornerOf := by decide +kernel
theorem lv_7_147 : ab_mk ab_mlV 7 147 = some m_X7_worthIn := by decide +kernel
theorem lv_7_143 : ab_mk ab_mlV 7 143 = some m_X7_buriedOnes := by decide +kernel
theorem lv_7_150 : ab_mk ab_mlV 7 150 = some m_X7_drawn := by decide +kernel
theorem lv_8_55 : ab_mk ab_mlV 8 55 = some m_X7_kicks := by decide +kernel
theorem lv_8_59 : ab_mk ab_mlV 8 59 = some m_X7_deal := by decide +kernel
theorem lv_7_154 : ab_mk ab_mlV 7 154 = some m_X7_draw := by decide +kernel
theorem lv_8_63 : ab_mk ab_mlV 8 63 = some m_X7_seed := by decide +kernel
theorem lv_8_67 : ab_mk ab_mlV 8 67 = some m_X7_evenings := by decide +kernel
theorem lv_7_166 : ab_mk ab_mlV 7 166 = some m_X7_goesOn := by decide +kernel
theorem lv_7_163 : ab_mk ab_mlV 7 163 = some m_X7_evening := by decide +kernel
theorem lv_7_160 : ab_mk ab_mlV 7 160 = some m_X7_maid := by decide +kernel
theorem lv_7_157 : ab_mk ab_mlV 7 157 = some m_X7_dustiest := by decide +kernel
theorem lv_8_71 : ab_mk ab_mlV 8 71 = some m_X7_room := by decide +kernel
theorem lv_7_170 : ab_mk ab_mlV 7 170 = some m_X7_allDust := by decide +kernel
theorem lv_7_173 : ab_mk ab_mlV 7 173 = some m_X7_peopled := by decide +kernel
theorem lv_7_176 : ab_mk ab_mlV 7 176 = some m_X7_deafest := by decide +kernel
theorem lv_8_75 : ab_mk ab_mlV 8 75 = some m_X7_behind := by decide +kernel
theorem lv_7_183 : ab_mk ab_mlV 7 183 = some m_X7_thinks := by decide +kernel
theorem lv_7_186 : ab_mk ab_mlV 7 186 = some m_X7_putsBack := by decide +kernel
theorem lv_8_79 : ab_mk ab_mlV 8 79 = some m_X7_sinks := by decide +kernel
theorem lv_8_83 : ab_mk ab_mlV 8 83 = some m_X7_hears := by decide +kernel
theorem lv_8_87 : ab_mk ab_mlV 8 87 = some m_X7_shine := by decide +kernel
theorem lv_7_190 : ab_mk ab_mlV 7 190 = some m_X7_isBright := by decide +kernel
theorem lv_8_91 : ab_mk ab_mlV 8 91 = some m_X7_edge := by decide +kernel
theorem lv_7_193 : ab_mk ab_mlV 7 193 = some m_X7_dustOn := by decide +kernel
theorem lv_8_95 : ab_mk ab_mlV 8 95 = some m_X7_place := by decide +kernel
theorem lv_8_99 : ab_mk ab_mlV 8 99 = some m_X7_becomes := by decide +kernel
theorem lv_7_196 : ab_mk ab_mlV 7 196 = some m_X7_allHeed := by decide +kernel
theorem lv_8_103 : ab_mk ab_mlV 8 103 = some m_X7_like := by decide +kernel
theorem lv_8_108 : ab_mk ab_mlV 8 108 = some m_X7_fee := by decide +kernel
theorem lv_8_112 : ab_mk ab_mlV 8 112 = some m_X7_fine := by decide +kernel
theorem lv_8_116 : ab_mk ab_mlV 8 116 = some m_X7_feed := by decide +kernel
theorem lv_8_120 : ab_mk ab_mlV 8 120 = some m_X7_trim := by decide +kernel
theorem lv_8_124 : ab_mk ab_mlV 8 124 = some m_X7_text := by decide +kernel
theorem lv_7_234 : ab_mk ab_mlV 7 234 = some m_X7_go := by decide +kernel
theorem lv_7_222 : ab_mk ab_mlV 7 222 = some m_X7_isLetter := by decide +kernel
theorem lv_7_228 : ab_mk ab_mlV 7 228 = some m_X7_isFigure := by decide +kernel
theorem lv_7_265 : ab_mk ab_mlV 7 265 = some m_X7_takesKey := by decide +kernel
theorem lv_7_268 : ab_mk ab_mlV 7 268 = some m_X7_takesE := by decide +kernel
theorem lv_7_255 : ab_mk ab_mlV 7 255 = some m_X7_takesPart := by decide +kernel
theorem lv_7_246 : ab_mk ab_mlV 7 246 = some m_X7_nameOf := by decide +kernel
theorem lv_7_252 : ab_mk ab_mlV 7 252 = some m_X7_settle := by decide +kernel
theorem lv_7_259 : ab_mk ab_mlV 7 259 = some m_X7_notsOpen := by decide +kernel
theorem lv_7_262 : ab_mk ab_mlV 7 262 = some m_X7_signHere := by decide +kernel
theorem lv_8_128 : ab_mk ab_mlV 8 128 = some m_X7_textTold := by decide +kernel
theorem lv_8_132 : ab_mk ab_mlV 8 132 = some m_X7_why := by decide +kernel
theorem lv_8_136 : ab_mk ab_mlV 8 136 = some m_X7_sheet := by decide +kernel
theorem lv_8_140 : ab_mk ab_mlV 8 140 = some m_X7_mark := by decide +kernel
theorem lv_8_144 : ab_mk ab_mlV 8 144 = some m_X7_pour := by decide +kernel
theorem lv_8_148 : ab_mk ab_mlV 8 148 = some m_X7_reads := by decide +kernel
theorem lv_8_153 : ab_mk ab_mlV 8 153 = some m_X7_copy := by decide +kernel
theorem lv_8_157 : ab_mk ab_mlV 8 157 = some m_X7_lay := by decide +kernel
theorem lv_8_161 : ab_mk ab_mlV 8 161 = some m_X7_ask := by decide +kernel
theorem lv_8_165 : ab_mk ab_mlV 8 165 = some m_X7_item := by decide +kernel
theorem lv_8_169 : ab_mk ab_mlV 8 169 = some m_X7_rest := by decide +kernel
theorem lv_8_173 : ab_mk ab_mlV 8 173 = some m_X7_tell := by decide +kernel
theorem lv_8_177 : ab_mk ab_mlV 8 177 = some m_X7_check := by decide +kernel
theorem lv_8_181 : ab_mk ab_mlV 8 181 = some m_X7_keep := by decide +kernel
theorem lv_8_185 : ab_mk ab_mlV 8 185 = some m_X7_back := by decide +kernel
theorem lv_8_189 : ab_mk ab_mlV 8 189 = some m_X7_count := by decide +kernel
theorem lt_6_59 : ab_mk (ab_mlS ++ ab_mlSN) 6 59 = some m_X0_isKind := by decide +kernel
theorem lt_6_65 : ab_mk (ab_mlS ++ ab_mlSN) 6 65 = some m_X6_isWithin := by decide +kernel
theorem lt_6_69 : ab_mk (ab_mlS ++ ab_mlSN) 6 69 = some m_X2_isCorner := by decide +kernel
theorem lt_2_137 : ab_mk (ab_mlS ++ ab_mlSN) 2 137 = some m_J6_bitCount_0f7a4 := by decide +kernel
theorem lt_1_71 : ab_mk (ab_mlS ++ ab_mlSN) 1 71 = some m_X1_join := by decide +kernel
theorem lt_2_118 : ab_mk (ab_mlS ++ ab_mlSN) 2 118 = some m_X2_held := by decide +kernel
theorem lt_2_48 : ab_mk (ab_mlS ++ ab_mlSN) 2 48 = some m_J9_min_7cf53 := by decide +kernel
theorem lt_2_54 : ab_mk (ab_mlS ++ ab_mlSN) 2 54 = some m_J9_max_7cf53 := by decide +kernel
theorem lt_2_124 : ab_mk (ab_mlS ++ ab_mlSN) 2 124 = some m_X0_isUnder := by decide +kernel
theorem lt_2_149 : ab_mk (ab_mlS ++ ab_mlSN) 2 149 = some m_X0_worth := by decide +kernel
theorem lt_0_15 : ab_mk (ab_mlS ++ ab_mlSN) 0 15 = some m_J9_max_7cf53 := by decide +kernel
theorem lt_6_105 : ab_mk (ab_mlS ++ ab_mlSN) 6 105 = some m_X0_isUnder := by decide +kernel
theorem lt_6_127 : ab_mk (ab_mlS ++ ab_mlSN) 6 127 = some m_J6_bitCount_0f7a4 := by decide +kernel
theorem lt_6_193 : ab_mk (ab_mlS ++ ab_mlSN) 6 193 = some m_X6_isSheet := by decide +kernel
theorem lt_6_211 : ab_mk (ab_mlS ++ ab_mlSN) 6 211 = some m_J9_abs_0f7a4 := by decide +kernel
theorem lt_5_50 : ab_mk (ab_mlS ++ ab_mlSN) 5 50 = some m_J9_min_7cf53 := by decide +kernel
theorem lt_5_63 : ab_mk (ab_mlS ++ ab_mlSN) 5 63 = some m_X1_wordOf := by decide +kernel
theorem lt_9_495 : ab_mk (ab_mlS ++ ab_mlSN) 9 495 = some m_J1_charAt_3b067 := by decide +kernel
theorem lt_10_9 : ab_mk (ab_mlS ++ ab_mlSN) 10 9 = some m_J0_checkIndex_df160 := by decide +kernel
theorem lt_9_1059 : ab_mk (ab_mlS ++ ab_mlSN) 9 1059 = some m_J3_checkIndex_8e157 := by decide +kernel
theorem lt_5_124 : ab_mk (ab_mlS ++ ab_mlSN) 5 124 = some m_X1_namesOf := by decide +kernel
theorem lt_9_637 : ab_mk (ab_mlS ++ ab_mlSN) 9 637 = some m_J1_indexOf_4cfef := by decide +kernel
theorem lt_10_88 : ab_mk (ab_mlS ++ ab_mlSN) 10 88 = some m_J1_canEncode_9a6ad := by decide +kernel
theorem lt_10_92 : ab_mk (ab_mlS ++ ab_mlSN) 10 92 = some m_J9_max_7cf53 := by decide +kernel
theorem lt_10_38 : ab_mk (ab_mlS ++ ab_mlSN) 10 38 = some m_J9_min_7cf53 := by decide +kernel
theorem lt_10_95 : ab_mk (ab_mlS ++ ab_mlSN) 10 95 = some m_J1_indexOfChar_4cfef := by decide +kernel
theorem lt_9_1062 : ab_mk (ab_mlS ++ ab_mlSN) 9 1062 = some m_J3_checkFromToIndex_8c36e := by decide +kernel
theorem lt_5_96 : ab_mk (ab_mlS ++ ab_mlSN) 5 96 = some m_X5_signsOf := by decide +kernel
theorem lt_6_266 : ab_mk (ab_mlS ++ ab_mlSN) 6 266 = some m_X2_held := by decide +kernel
theorem lt_6_278 : ab_mk (ab_mlS ++ ab_mlSN) 6 278 = some m_X6_isSlot := by decide +kernel
theorem lt_6_303 : ab_mk (ab_mlS ++ ab_mlSN) 6 303 = some m_X0_worth := by decide +kernel
theorem lt_7_75 : ab_mk (ab_mlS ++ ab_mlSN) 7 75 = some m_X7_in := by decide +kernel
theorem lt_7_110 : ab_mk (ab_mlS ++ ab_mlSN) 7 110 = some m_X7_isCorner := by decide +kernel
theorem lt_7_90 : ab_mk (ab_mlS ++ ab_mlSN) 7 90 = some m_X7_bits := by decide +kernel
theorem lt_7_271 : ab_mk (ab_mlS ++ ab_mlSN) 7 271 = some m_X7_two := by decide +kernel
theorem lt_7_96 : ab_mk (ab_mlS ++ ab_mlSN) 7 96 = some m_X7_within := by decide +kernel
theorem lt_7_132 : ab_mk (ab_mlS ++ ab_mlSN) 7 132 = some m_X7_isUnder := by decide +kernel
theorem lt_7_179 : ab_mk (ab_mlS ++ ab_mlSN) 7 179 = some m_X7_copyAll := by decide +kernel
theorem lt_7_199 : ab_mk (ab_mlS ++ ab_mlSN) 7 199 = some m_X7_isSheet := by decide +kernel
theorem lt_7_203 : ab_mk (ab_mlS ++ ab_mlSN) 7 203 = some m_X7_off := by decide +kernel
theorem lt_7_240 : ab_mk (ab_mlS ++ ab_mlSN) 7 240 = some m_X7_rank := by decide +kernel
theorem lt_7_278 : ab_mk (ab_mlS ++ ab_mlSN) 7 278 = some m_X7_isSlot := by decide +kernel
theorem lt_0_9 : ab_mk (ab_mlS ++ ab_mlSN) 0 9 = some m_X6_isWithin := by decide +kernel
theorem lt_2_44 : ab_mk (ab_mlS ++ ab_mlSN) 2 44 = some m_X6_isWithin := by decide +kernel
theorem lt_1_44 : ab_mk (ab_mlS ++ ab_mlSN) 1 44 = some m_X6_isWithin := by decide +kernel
theorem lt_3_28 : ab_mk (ab_mlS ++ ab_mlSN) 3 28 = some m_X6_isWithin := by decide +kernel
theorem lc_6_272 : ab_mk (ab_mlS ++ ab_mlSN) 6 272 = none ∧ (6, 272) ∈ ab_mlC := by decide +kernel
theorem lc_2_57 : ab_mk (ab_mlS ++ ab_mlSN) 2 57 = none ∧ (2, 57) ∈ ab_mlC := by decide +kernel
theorem lc_3_22 : ab_mk (ab_mlS ++ ab_mlSN) 3 22 = none ∧ (3, 22) ∈ ab_mlC := by decide +kernel
theorem lc_1_61 : ab_mk (ab_mlS ++ ab_mlSN) 1 61 = none ∧ (1, 61) ∈ ab_mlC := by decide +kernel
theorem bi_m100 : (Int8.ofInt (-100)).toInt32 = (-100) := by decide +kernel
theorem bi_m33 : (Int8.ofInt (-33)).toInt32 = (-33) := by decide +kernel
theorem bi_m11 : (Int8.ofInt (-11)).toInt32 = (-11) := by decide +kernel
theorem bi_m10 : (Int8.ofInt (-10)).toInt32 = (-10) := by decide +kernel
theorem bi_m9 : (Int8.ofInt (-9)).toInt32 = (-9) := by decide +kernel
theorem bi_m8 : (Int8.ofInt (-8)).toInt32 = (-8) := by decide +kernel
theorem bi_m7 : (Int8.ofInt (-7)).toInt32 = (-7) := by decide +kernel
theorem bi_m6 : (Int8.ofInt (-6)).toInt32 = (-6) := by decide +kernel
theorem bi_m5 : (Int8.ofInt (-5)).toInt32 = (-5) := by decide +kernel
theorem bi_m4 : (Int8.ofInt (-4)).toInt32 = (-4) := by decide +kernel
theorem bi_m3 : (Int8.ofInt (-3)).toInt32 = (-3) := by decide +kernel
theorem bi_m2 : (Int8.ofInt (-2)).toInt32 = (-2) := by decide +kernel
theorem bi_6 : (Int8.ofInt 6).toInt32 = 6 := by decide +kernel
theorem bi_7 : (Int8.ofInt 7).toInt32 = 7 := by decide +kernel
theorem bi_8 : (Int8.ofInt 8).toInt32 = 8 := by decide +kernel
theorem bi_9 : (Int8.ofInt 9).toInt32 = 9 := by decide +kernel
theorem bi_10 : (Int8.ofInt 10).toInt32 = 10 := by decide +kernel
theorem bi_11 : (Int8.ofInt 11).toInt32 = 11 := by decide +kernel
theorem bi_12 : (Int8.ofInt 12).toInt32 = 12 := by decide +kernel
theorem bi_13 : (Int8.ofInt 13).toInt32 = 13 := by decide +kernel
theorem bi_14 : (Int8.ofInt 14).toInt32 = 14 := by decide +kernel
theorem bi_16 : (Int8.ofInt 16).toInt32 = 16 := by decide +kernel
theorem bi_20 : (Int8.ofInt 20).toInt32 = 20 := by decide +kernel
theorem bi_24 : (Int8.ofInt 24).toInt32 = 24 := by decide +kernel
theorem bi_30 : (Int8.ofInt 30).toInt32 = 30 := by decide +kernel
theorem bi_32 : (Int8.ofInt 32).toInt32 = 32 := by decide +kernel
theorem bi_33 : (Int8.ofInt 33).toInt32 = 33 := by decide +kernel
theorem bi_40 : (Int8.ofInt 40).toInt32 = 40 := by decide +kernel
theorem bi_41 : (Int8.ofInt 41).toInt32 = 41 := by decide +kernel
theorem bi_48 : (Int8.ofInt 48).toInt32 = 48 := by decide +kernel
theorem bi_50 : (Int8.ofInt 50).toInt32 = 50 := by decide +kernel
theorem bi_57 : (Int8.ofInt 57).toInt32 = 57 := by decide +kernel
theorem bi_60 : (Int8.ofInt 60).toInt32 = 60 := by decide +kernel
theorem bi_63 : (Int8.ofInt 63).toInt32 = 63 := by decide +kernel
theorem bi_80 : (Int8.ofInt 80).toInt32 = 80 := by decide +kernel
theorem bi_91 : (Int8.ofInt 91).toInt32 = 91 := by decide +kernel
theorem bi_96 : (Int8.ofInt 96).toInt32 = 96 := by decide +kernel
theorem bi_97 : (Int8.ofInt 97).toInt32 = 97 := by decide +kernel
theorem bi_98 : (Int8.ofInt 98).toInt32 = 98 := by decide +kernel
theorem bi_99 : (Int8.ofInt 99).toInt32 = 99 := by decide +kernel
theorem bi_100 : (Int8.ofInt 100).toInt32 = 100 := by decide +kernel
theorem bi_101 : (Int8.ofInt 101).toInt32 = 101 := by decide +kernel
theorem bi_102 : (Int8.ofInt 102).toInt32 = 102 := by decide +kernel
theorem bi_104 : (Int8.ofInt 104).toInt32 = 104 := by decide +kernel
theorem bi_105 : (Int8.ofInt 105).toInt32 = 105 := by decide +kernel
theorem bi_108 : (Int8.ofInt 108).toInt32 = 108 := by decide +kernel
theorem bi_109 : (Int8.ofInt 109).toInt32 = 109 := by decide +kernel
theorem bi_110 : (Int8.ofInt 110).toInt32 = 110 := by decide +kernel
theorem bi_111 : (Int8.ofInt 111).toInt32 = 111 := by decide +kernel
theorem bi_119 : (Int8.ofInt 119).toInt32 = 119 := by decide +kernel
theorem bi_120 : (Int8.ofInt 120).toInt32 = 120 := by decide +kernel
theorem bi_122 : (Int8.ofInt 122).toInt32 = 122 := by decide +kernel
theorem ic_m8 : Int32.ofInt (-8) = (-8) := by decide +kernel
theorem ic_m1 : Int32.ofInt (-1) = (-1) := by decide +kernel
theorem ic_0 : Int32.ofInt 0 = 0 := by decide +kernel
theorem ic_1 : Int32.ofInt 1 = 1 := by decide +kernel
theorem ic_2 : Int32.ofInt 2 = 2 := by decide +kernel
theorem ic_3 : Int32.ofInt 3 = 3 := by decide +kernel
theorem ic_4 : Int32.ofInt 4 = 4 := by decide +kernel
theorem ic_5 : Int32.ofInt 5 = 5 := by decide +kernel
theorem ic_6 : Int32.ofInt 6 = 6 := by decide +kernel
theorem si_200 : (Int16.ofInt 200).toInt32 = 200 := by decide +kernel
theorem si_255 : (Int16.ofInt 255).toInt32 = 255 := by decide +kernel
theorem si_1000 : (Int16.ofInt 1000).toInt32 = 1000 := by decide +kernel
theorem si_1435 : (Int16.ofInt 1435).toInt32 = 1435 := by decide +kernel
theorem si_9999 : (Int16.ofInt 9999).toInt32 = 9999 := by decide +kernel
theorem si_10000 : (Int16.ofInt 10000).toInt32 = 10000 := by decide +kernel
theorem si_12345 : (Int16.ofInt 12345).toInt32 = 12345 := by decide +kernel
