/-! what the tables' words give, checked once, by their places; written by wip/tools/gen_checks.py -/
def ab_U : List Cond := lw_tbl.filter goodWord
def ab_has (p : Nat) (w : Cond) : Bool := decide (lw_tbl[p]? = some w) && goodWord w
theorem ab_has_U {p : Nat} {w : Cond} (h : ab_has p w = true) : w ∈ ab_U := by
  unfold ab_has at h
  rw [Bool.and_eq_true, decide_eq_true_eq] at h
  exact List.mem_filter.mpr ⟨List.mem_of_getElem? h.1, h.2⟩
def ab_flP : List Nat := [90, 91, 92, 93, 94, 95, 96, 97, 119, 120, 121, 122, 123, 124, 125, 126, 127, 128, 129, 130, 131, 132, 133, 134, 135, 136, 137, 138, 139, 140, 141, 142, 143, 144, 145, 146, 147, 185, 186, 187, 188, 189, 190, 191, 192, 193, 194, 195, 196, 197, 198, 199, 200, 227, 228, 229, 230, 231, 232, 249, 250, 251, 252, 253, 254, 255, 256, 257, 258, 259, 273, 274, 275, 276, 277, 278, 279, 280, 281, 282, 283, 917, 918, 919, 920, 921, 922, 923, 924, 925, 926, 927, 928, 929, 930, 931, 932, 933, 934, 935, 936, 937, 938, 939, 940, 941, 942, 943, 944, 945, 946, 947, 948, 949]
theorem ab_flP_n : ab_flT.length = ab_flP.length := by decide +kernel
def ab_ckF (q : (Nat × Nat × Nat × Nat) × Nat) : Bool := ab_has q.2 (.fieldLink (ab_R q.1.1) q.1.2.1 (ab_R q.1.2.2.1) (ab_T q.1.2.2.1 q.1.2.2.2).2.1 (ab_T q.1.2.2.1 q.1.2.2.2).2.2.1) && decide ((ab_T q.1.2.2.1 q.1.2.2.2).1 = ab_R q.1.2.2.1) && decide (q.1.2.2.2 < ab_N q.1.2.2.1) && decide (q.1.2.2.1 < 8)
set_option maxRecDepth 100000 in
theorem ab_ckF_ok : (ab_flT.zip ab_flP).all ab_ckF = true := by decide +kernel
theorem ab_zip {α β : Type} {T : List α} {P : List β} (hn : T.length = P.length) {e : α} (h : e ∈ T) : ∃ p, (e, p) ∈ T.zip P := by
  obtain ⟨i, hi, rfl⟩ := List.getElem_of_mem h
  exact ⟨P[i]'(by omega), List.mem_iff_getElem.mpr ⟨i, by rw [List.length_zip]; omega, by rw [List.getElem_zip]⟩⟩
theorem ab_mk_mem {T : List (Nat × Nat × Nat)} {o j k : Nat} (h : ab_mk T o j = some k) : (o, j, k) ∈ T := by
  unfold ab_mk at h
  obtain ⟨e, h1, rfl⟩ := Option.map_eq_some_iff.mp h
  have h2 := List.find?_some h1
  simp only [Bool.and_eq_true, beq_iff_eq] at h2
  have h3 := List.mem_of_find?_eq_some h1
  rw [← h2.1, ← h2.2]
  exact h3
theorem ab_okF {o j ci fi : Nat} (h : ab_fl o j = some (ci, fi)) : Cond.fieldLink (ab_R o) j (ab_R ci) (ab_T ci fi).2.1 (ab_T ci fi).2.2.1 ∈ ab_U ∧ (ab_T ci fi).1 = ab_R ci ∧ fi < ab_N ci ∧ ci < 8 := by
  unfold ab_fl at h
  obtain ⟨e, h1, h4⟩ := Option.map_eq_some_iff.mp h
  have h2 := List.find?_some h1
  simp only [Bool.and_eq_true, beq_iff_eq] at h2
  have h3 := List.mem_of_find?_eq_some h1
  obtain ⟨p, hp⟩ := ab_zip ab_flP_n h3
  have h5 := List.all_eq_true.mp ab_ckF_ok _ hp
  obtain ⟨e1, e2, e3, e4⟩ := e
  cases h4
  obtain ⟨rfl, rfl⟩ := h2
  unfold ab_ckF at h5
  simp only [Bool.and_eq_true, decide_eq_true_eq] at h5
  exact ⟨ab_has_U h5.1.1.1, h5.1.1.2, h5.1.2, h5.2⟩
def ab_wsT : List (Nat × Nat × Nat) := [(1, 0, 98), (1, 1, 100), (1, 2, 102), (1, 3, 104), (1, 4, 106), (1, 5, 108), (2, 0, 148), (2, 1, 150), (2, 2, 152), (2, 3, 154), (2, 4, 156), (2, 5, 158), (2, 6, 160), (2, 7, 162), (2, 8, 164), (2, 9, 166), (2, 10, 168), (2, 11, 170), (2, 12, 172), (2, 13, 174), (2, 14, 176), (3, 0, 233), (3, 1, 235), (3, 2, 237), (4, 0, 260), (4, 1, 262), (4, 2, 264), (4, 3, 266), (4, 4, 268), (4, 5, 270), (5, 0, 201), (5, 1, 203), (5, 2, 205), (5, 3, 207), (5, 4, 209), (5, 5, 211), (5, 6, 213), (5, 7, 215), (5, 8, 217), (6, 0, 284), (6, 1, 286), (6, 2, 288), (6, 3, 290), (6, 4, 292), (6, 5, 294), (6, 6, 296), (6, 7, 298), (6, 8, 300), (6, 9, 302), (6, 10, 304), (7, 0, 950), (7, 1, 952), (7, 2, 954), (7, 3, 956), (7, 4, 958), (7, 5, 960), (7, 6, 962), (7, 7, 964), (7, 8, 966), (7, 9, 968), (7, 10, 970), (7, 11, 972), (7, 12, 974), (7, 13, 976), (7, 14, 978), (7, 15, 980), (7, 16, 982), (7, 17, 984), (7, 18, 986), (7, 19, 988), (7, 20, 990), (7, 21, 992), (7, 22, 994), (7, 23, 996), (7, 24, 998), (7, 25, 1000), (7, 26, 1002), (7, 27, 1004), (7, 28, 1006), (7, 29, 1008), (7, 30, 1010), (7, 31, 1012), (7, 32, 1014)]
set_option maxRecDepth 100000 in
theorem ab_wsT_ok : ab_wsT.all (fun q => ab_has q.2.2 (u_lay (ab_R q.1) (ab_T q.1) q.2.1)) = true := by decide +kernel
theorem ab_wsT_all : ∀ c, c < 8 → ∀ k, k < ab_N c → ∃ p, (c, k, p) ∈ ab_wsT := by
  have h : (List.range 8).all (fun c => (List.range (ab_N c)).all fun k => ab_wsT.any fun q => q.1 == c && q.2.1 == k) = true := by decide +kernel
  intro c hc k hk
  have h1 := List.all_eq_true.mp (List.all_eq_true.mp h c (List.mem_range.mpr hc)) k (List.mem_range.mpr hk)
  obtain ⟨q, hq, h2⟩ := List.any_eq_true.mp h1
  simp only [Bool.and_eq_true, beq_iff_eq] at h2
  exact ⟨q.2.2, by rw [← h2.1, ← h2.2]; exact hq⟩
theorem ab_okW {c : Nat} (hc : c < 8) : ∀ w ∈ u_ws (ab_R c) (ab_T c) (ab_N c), w ∈ ab_U := by
  intro w hw
  unfold u_ws at hw
  obtain ⟨k, hk, rfl⟩ := List.mem_map.mp hw
  obtain ⟨p, hp⟩ := ab_wsT_all c hc k (List.mem_range.mp hk)
  exact ab_has_U (List.all_eq_true.mp ab_wsT_ok _ hp)
def ab_msP : List Nat := [65, 65, 65, 59, 59, 59, 59, 59, 59, 59, 59, 60, 60, 60, 60, 60, 60, 60, 60, 60, 60, 60, 60, 60, 60, 60, 60, 60, 60, 60, 60, 60, 60, 60, 60, 60, 60, 60, 60, 60, 60, 60, 62, 62, 62, 62, 62, 62, 62, 63, 63, 61, 61, 61, 61, 61, 61, 61, 61, 61, 61, 61, 61, 61, 61, 61, 61, 61, 58, 58, 58, 58, 58, 58, 58, 58, 58, 58, 58, 58, 58, 58, 58, 58, 58, 58, 58, 58, 58, 58, 58, 58, 58, 58, 58, 58, 58, 58, 58, 58, 58, 58, 58, 58, 58, 58, 58, 58, 58, 58, 58, 58, 58, 58, 58, 58, 58, 64, 64, 64, 64, 64, 64, 64, 64, 64, 64, 64, 64, 64, 64, 64, 64, 64, 64, 64, 64, 64, 64, 64, 64, 64, 64, 64, 64, 64, 64, 64, 64, 64, 64, 64, 64, 64, 64, 64, 64, 64, 64, 64, 64, 64, 64, 64, 64, 64, 64, 64, 64, 64, 64, 64, 64, 64, 64, 64, 64, 64, 64, 64, 64, 64, 64, 64, 64, 64, 64, 64, 64, 64, 64, 64, 64, 64, 64, 64, 64, 64, 64, 64, 64, 64, 64, 64, 64, 64, 64, 64, 64, 64, 64, 64, 66, 67, 67, 67, 69, 69, 69, 69, 69, 69, 69, 69, 70, 70, 70, 70, 71, 71]
def ab_isCd (w : Cond) (y : MethodName) (n : Nat) (r : Option FieldType) : Bool := match w with
  | .code y' _ n' r' => decide (y' = y) && decide (n' = n) && decide (r' = r)
  | _ => false
theorem ab_isCd_e {w : Cond} {y : MethodName} {n : Nat} {r : Option FieldType} (h : ab_isCd w y n r = true) : w = .code y (ab_cb w) n r := by
  unfold ab_isCd at h
  split at h
  · simp only [Bool.and_eq_true, decide_eq_true_eq] at h
    obtain ⟨⟨rfl, rfl⟩, rfl⟩ := h
    rfl
  · cases h
def ab_ckM (k : Nat) (p : Nat) : Bool := ab_isCd (ab_cd k) (ab_Y k) (ab_mL k) (ab_rt k) && ab_has p (.initialized (ab_Y k).cls) && plainFor (ab_Y k) && decide ((ab_Y k).cls ≠ "java/lang/invoke/MethodHandle" ∧ (ab_Y k).cls ≠ "java/lang/invoke/VarHandle" ∧ (parseMethodDescriptor (ab_Y k).desc).map (fun d => d.parameters.length) = some (ab_np k)) && decide ((ab_Y k).cls = ab_R (ab_own k)) && decide (ab_mL k ≤ 20)
set_option maxRecDepth 100000 in
theorem ab_ckM_0 : ((List.range 58).drop 0).all (fun k => ab_ckM k (ab_msP.getD k 0)) = true := by decide +kernel
set_option maxRecDepth 100000 in
theorem ab_ckM_58 : ((List.range 116).drop 58).all (fun k => ab_ckM k (ab_msP.getD k 0)) = true := by decide +kernel
set_option maxRecDepth 100000 in
theorem ab_ckM_116 : ((List.range 174).drop 116).all (fun k => ab_ckM k (ab_msP.getD k 0)) = true := by decide +kernel
set_option maxRecDepth 100000 in
theorem ab_ckM_174 : ((List.range 230).drop 174).all (fun k => ab_ckM k (ab_msP.getD k 0)) = true := by decide +kernel
theorem ab_ckM_all {k : Nat} (h : k < ab_nM) : ab_ckM k (ab_msP.getD k 0) = true := by
  have h : k < 230 := h
  by_cases h0 : k < 58
  · exact List.all_eq_true.mp ab_ckM_0 k (List.mem_iff_getElem.mpr ⟨k - 0, by rw [List.length_drop, List.length_range]; omega, by rw [List.getElem_drop, List.getElem_range]; omega⟩)
  by_cases h58 : k < 116
  · exact List.all_eq_true.mp ab_ckM_58 k (List.mem_iff_getElem.mpr ⟨k - 58, by rw [List.length_drop, List.length_range]; omega, by rw [List.getElem_drop, List.getElem_range]; omega⟩)
  by_cases h116 : k < 174
  · exact List.all_eq_true.mp ab_ckM_116 k (List.mem_iff_getElem.mpr ⟨k - 116, by rw [List.length_drop, List.length_range]; omega, by rw [List.getElem_drop, List.getElem_range]; omega⟩)
  by_cases h174 : k < 230
  · exact List.all_eq_true.mp ab_ckM_174 k (List.mem_iff_getElem.mpr ⟨k - 174, by rw [List.length_drop, List.length_range]; omega, by rw [List.getElem_drop, List.getElem_range]; omega⟩)
  omega
theorem ab_cd_mem {k : Nat} {y : MethodName} {n : Nat} {r : Option FieldType} (h : ab_isCd (ab_cd k) y n r = true) : Cond.code y (ab_cb (ab_cd k)) n r ∈ ab_U := by
  have e := ab_isCd_e h
  have h1 : ab_cd k ∈ lw_tbl := by
    unfold ab_cd at h ⊢
    rw [List.getD_eq_getElem?_getD] at h ⊢
    cases hq : lw_tbl[ab_cp.getD k 0]? with
    | none => rw [hq] at h; cases h
    | some w => rw [Option.getD_some]; exact List.mem_of_getElem? hq
  rw [e] at h1
  exact List.mem_filter.mpr ⟨h1, rfl⟩
theorem ab_okM {k : Nat} (h : k < ab_nM) : Cond.code (ab_Y k) (ab_B k) (ab_mL k) (ab_rt k) ∈ ab_U ∧ Cond.initialized (ab_Y k).cls ∈ ab_U ∧ plainFor (ab_Y k) = true ∧ ((ab_Y k).cls ≠ "java/lang/invoke/MethodHandle" ∧ (ab_Y k).cls ≠ "java/lang/invoke/VarHandle" ∧ (parseMethodDescriptor (ab_Y k).desc).map (fun d => d.parameters.length) = some (ab_np k)) ∧ (ab_Y k).cls = ab_R (ab_own k) ∧ ab_mL k ≤ 20 := by
  have h5 := ab_ckM_all h
  unfold ab_ckM at h5
  simp only [Bool.and_eq_true, decide_eq_true_eq] at h5
  refine ⟨?_, ab_has_U h5.1.1.1.1.2, h5.1.1.1.2, h5.1.1.2, h5.1.2, h5.2⟩
  unfold ab_B
  rw [if_neg (Nat.ne_of_lt h)]
  exact ab_cd_mem h5.1.1.1.1.1
def ab_mlVP : List (Nat × Nat × Nat) := [(307, 308, 309), (323, 324, 325), (327, 328, 329), (332, 333, 334), (336, 337, 338), (340, 341, 342), (344, 346, 0), (348, 349, 350), (358, 359, 360), (362, 363, 364), (367, 369, 1), (383, 385, 2), (390, 391, 392), (394, 395, 396), (402, 403, 404), (408, 409, 410), (412, 413, 414), (416, 417, 418), (420, 421, 422), (424, 425, 426), (428, 429, 430), (432, 433, 434), (436, 349, 350), (437, 438, 439), (441, 395, 396), (442, 443, 444), (446, 447, 448), (451, 452, 453), (455, 391, 392), (456, 457, 458), (460, 461, 462), (464, 328, 329), (465, 466, 467), (469, 470, 471), (474, 324, 325), (475, 476, 477), (479, 480, 481), (483, 484, 485), (487, 488, 489), (491, 425, 426), (492, 341, 342), (493, 452, 453), (494, 495, 496), (498, 499, 500), (502, 503, 504), (506, 507, 508), (510, 511, 512), (514, 515, 516), (518, 519, 520), (525, 526, 527), (529, 484, 485), (530, 531, 532), (534, 447, 448), (536, 537, 538), (540, 541, 542), (544, 546, 3), (548, 549, 550), (552, 553, 554), (556, 557, 558), (560, 561, 562), (564, 565, 566), (568, 569, 570), (575, 576, 577), (580, 582, 4), (584, 585, 586), (592, 593, 594), (596, 597, 598), (600, 601, 602), (604, 605, 606), (608, 609, 610), (612, 613, 614), (617, 618, 619), (621, 622, 623), (625, 626, 627), (629, 630, 631), (633, 635, 5), (637, 639, 6), (642, 644, 7), (652, 654, 8), (656, 657, 658), (660, 661, 662), (666, 667, 668), (670, 671, 672), (704, 706, 9), (708, 710, 10), (712, 714, 11), (716, 718, 12), (720, 722, 13), (724, 726, 14), (734, 735, 736), (738, 739, 740), (742, 657, 658), (790, 792, 15), (795, 797, 16), (808, 809, 810), (814, 815, 816), (818, 819, 820), (822, 823, 824), (826, 827, 828), (831, 832, 833), (835, 836, 837), (843, 844, 845), (848, 849, 850), (852, 853, 854), (856, 857, 858), (861, 862, 863), (868, 869, 870), (872, 873, 874), (877, 878, 879), (882, 883, 884), (886, 887, 888), (891, 892, 893), (895, 896, 897), (899, 900, 901), (903, 904, 905), (907, 908, 909), (1019, 1020, 1021), (1031, 1033, 17), (1035, 1037, 18), (1039, 1040, 1041), (1043, 1045, 19), (1047, 1049, 20), (1051, 1053, 21), (1055, 1057, 22), (1059, 1061, 23), (1063, 1065, 24), (1070, 1072, 25), (1080, 1082, 26), (1084, 1086, 27), (1088, 1090, 28), (1092, 1093, 1094), (1100, 1101, 1102), (1104, 1106, 29), (1108, 1109, 1110), (1112, 1113, 1114), (1116, 1117, 1118), (1120, 1122, 30), (1124, 1125, 1126), (1128, 1129, 1130), (1132, 1134, 31), (1136, 1138, 32), (1140, 1142, 33), (1144, 1145, 1146), (1148, 1149, 1150), (1152, 1154, 34), (1157, 1158, 1159), (1161, 1162, 1163), (1165, 1167, 35), (1169, 1171, 36), (1173, 1175, 37), (1177, 1179, 38), (1181, 1182, 1183), (1185, 1187, 39), (1189, 1191, 40), (1193, 1195, 41), (1197, 1198, 1199), (1201, 1203, 42), (1208, 1210, 43), (1212, 1213, 1214), (1217, 1218, 1219), (1221, 1222, 1223), (1225, 1227, 44), (1229, 1230, 1231), (1233, 1235, 45), (1237, 1238, 1239), (1241, 1242, 1243), (1245, 1247, 46), (1249, 1250, 1251), (1260, 1261, 1262), (1264, 1265, 1266), (1268, 1269, 1270), (1272, 1273, 1274), (1276, 1277, 1278), (1280, 1282, 47), (1284, 1286, 48), (1288, 1290, 49), (1292, 1294, 50), (1296, 1298, 51), (1300, 1302, 52), (1304, 1306, 53), (1308, 1310, 54), (1315, 1317, 55), (1319, 1321, 56), (1323, 1324, 1325), (1327, 1328, 1329), (1331, 1332, 1333), (1336, 1337, 1338), (1343, 1344, 1345), (1347, 1348, 1349), (1351, 1352, 1353), (1355, 1356, 1357), (1362, 1363, 1364), (1366, 1367, 1368), (1370, 1371, 1372), (1375, 1376, 1377), (1379, 1380, 1381), (1383, 1384, 1385), (1387, 1388, 1389), (1391, 1392, 1393)]
theorem ab_mlVP_n : ab_mlV.length = ab_mlVP.length := by decide +kernel
def ab_ckmlV (q : (Nat × Nat × Nat) × Nat × Nat × Nat) : Bool := ab_has q.2.1 (.methodLink (ab_R q.1.1) q.1.2.1 (ab_Y q.1.2.2)) && ab_has q.2.2.1 (.instanceMethod (ab_Y q.1.2.2)) && ab_has q.2.2.2 (.selects (ab_Y q.1.2.2).cls (ab_Y q.1.2.2) (ab_Y q.1.2.2)) && decide (q.1.2.2 < ab_nM)
set_option maxRecDepth 100000 in
theorem ab_ckmlV_0 : (((ab_mlV.zip ab_mlVP).drop 0).take 70).all ab_ckmlV = true := by decide +kernel
set_option maxRecDepth 100000 in
theorem ab_ckmlV_70 : (((ab_mlV.zip ab_mlVP).drop 70).take 70).all ab_ckmlV = true := by decide +kernel
set_option maxRecDepth 100000 in
theorem ab_ckmlV_140 : (((ab_mlV.zip ab_mlVP).drop 140).take 70).all ab_ckmlV = true := by decide +kernel
theorem ab_ckmlV_ok : (ab_mlV.zip ab_mlVP).all ab_ckmlV = true := by
  have e : ab_mlV.zip ab_mlVP = ((ab_mlV.zip ab_mlVP).drop 0).take 70 ++ (((ab_mlV.zip ab_mlVP).drop 70).take 70 ++ (((ab_mlV.zip ab_mlVP).drop 140).take 70)) := by decide +kernel
  rw [e]; simp only [List.all_append, ab_ckmlV_0, ab_ckmlV_70, ab_ckmlV_140, Bool.and_self]
theorem ab_okmlV {o j k : Nat} (h : (o, j, k) ∈ ab_mlV) : Cond.methodLink (ab_R o) j (ab_Y k) ∈ ab_U ∧ Cond.instanceMethod (ab_Y k) ∈ ab_U ∧ Cond.selects (ab_Y k).cls (ab_Y k) (ab_Y k) ∈ ab_U ∧ k < ab_nM := by
  obtain ⟨p, hp⟩ := ab_zip ab_mlVP_n h
  have h5 := List.all_eq_true.mp ab_ckmlV_ok _ hp
  unfold ab_ckmlV at h5
  simp only [Bool.and_eq_true, decide_eq_true_eq] at h5
  exact ⟨ab_has_U h5.1.1.1, ab_has_U h5.1.1.2, ab_has_U h5.1.2, h5.2⟩
def ab_mlSP : List (Nat × Nat) := [(311, 312), (317, 315), (318, 319), (352, 353), (371, 372), (374, 375), (377, 378), (380, 381), (387, 388), (398, 399), (401, 381), (406, 388), (450, 353), (572, 573), (589, 590), (641, 378), (646, 647), (674, 675), (677, 678), (682, 683), (728, 729), (743, 744), (746, 747), (749, 381), (750, 378), (751, 752), (769, 770), (800, 801), (847, 375), (865, 866), (881, 399), (1023, 1024), (1026, 1027), (1067, 1068), (1074, 1075), (1077, 1078), (1096, 1097), (1205, 1206), (1253, 1254), (1257, 1258), (1312, 1313), (1359, 1360)]
theorem ab_mlSP_n : ab_mlS.length = ab_mlSP.length := by decide +kernel
def ab_ckmlS (q : (Nat × Nat × Nat) × Nat × Nat) : Bool := ab_has q.2.1 (.methodLink (ab_R q.1.1) q.1.2.1 (ab_Y q.1.2.2)) && ab_has q.2.2 (.static (ab_Y q.1.2.2)) && decide (q.1.2.2 < ab_nM)
set_option maxRecDepth 100000 in
theorem ab_ckmlS_0 : (((ab_mlS.zip ab_mlSP).drop 0).take 70).all ab_ckmlS = true := by decide +kernel
theorem ab_ckmlS_ok : (ab_mlS.zip ab_mlSP).all ab_ckmlS = true := by
  have e : ab_mlS.zip ab_mlSP = ((ab_mlS.zip ab_mlSP).drop 0).take 70 := by decide +kernel
  rw [e]; simp only [List.all_append, ab_ckmlS_0, Bool.and_self]
theorem ab_okmlS {o j k : Nat} (h : (o, j, k) ∈ ab_mlS) : Cond.methodLink (ab_R o) j (ab_Y k) ∈ ab_U ∧ Cond.static (ab_Y k) ∈ ab_U ∧ k < ab_nM := by
  obtain ⟨p, hp⟩ := ab_zip ab_mlSP_n h
  have h5 := List.all_eq_true.mp ab_ckmlS_ok _ hp
  unfold ab_ckmlS at h5
  simp only [Bool.and_eq_true, decide_eq_true_eq] at h5
  exact ⟨ab_has_U h5.1.1, ab_has_U h5.1.2, h5.2⟩
def ab_mlSNP : List (Nat) := [315, 315, 315, 315]
theorem ab_mlSNP_n : ab_mlSN.length = ab_mlSNP.length := by decide +kernel
def ab_ckmlSN (q : (Nat × Nat × Nat) × Nat) : Bool := ab_has q.2 (.static (ab_Y q.1.2.2)) && decide (q.1.2.2 < ab_nM)
set_option maxRecDepth 100000 in
theorem ab_ckmlSN_0 : (((ab_mlSN.zip ab_mlSNP).drop 0).take 70).all ab_ckmlSN = true := by decide +kernel
theorem ab_ckmlSN_ok : (ab_mlSN.zip ab_mlSNP).all ab_ckmlSN = true := by
  have e : ab_mlSN.zip ab_mlSNP = ((ab_mlSN.zip ab_mlSNP).drop 0).take 70 := by decide +kernel
  rw [e]; simp only [List.all_append, ab_ckmlSN_0, Bool.and_self]
theorem ab_okmlSN {o j k : Nat} (h : (o, j, k) ∈ ab_mlSN) : Cond.static (ab_Y k) ∈ ab_U ∧ k < ab_nM := by
  obtain ⟨p, hp⟩ := ab_zip ab_mlSNP_n h
  have h5 := List.all_eq_true.mp ab_ckmlSN_ok _ hp
  unfold ab_ckmlSN at h5
  simp only [Bool.and_eq_true, decide_eq_true_eq] at h5
  exact ⟨ab_has_U h5.1, h5.2⟩
def ab_mlIP : List (Nat × Nat) := [(76, 77), (114, 115), (913, 914)]
theorem ab_mlIP_n : ab_mlI.length = ab_mlIP.length := by decide +kernel
def ab_ckmlI (q : (Nat × Nat × Nat) × Nat × Nat) : Bool := ab_has q.2.1 (.methodLink (ab_R q.1.1) q.1.2.1 (ab_Y q.1.2.2)) && ab_has q.2.2 (.instanceMethod (ab_Y q.1.2.2)) && decide (q.1.2.2 < ab_nM) && decide ((ab_Y q.1.2.2).name = "<init>") && decide (ab_rt q.1.2.2 = none)
set_option maxRecDepth 100000 in
theorem ab_ckmlI_0 : (((ab_mlI.zip ab_mlIP).drop 0).take 70).all ab_ckmlI = true := by decide +kernel
theorem ab_ckmlI_ok : (ab_mlI.zip ab_mlIP).all ab_ckmlI = true := by
  have e : ab_mlI.zip ab_mlIP = ((ab_mlI.zip ab_mlIP).drop 0).take 70 := by decide +kernel
  rw [e]; simp only [List.all_append, ab_ckmlI_0, Bool.and_self]
theorem ab_okmlI {o j k : Nat} (h : (o, j, k) ∈ ab_mlI) : Cond.methodLink (ab_R o) j (ab_Y k) ∈ ab_U ∧ Cond.instanceMethod (ab_Y k) ∈ ab_U ∧ k < ab_nM ∧ (ab_Y k).name = "<init>" ∧ ab_rt k = none := by
  obtain ⟨p, hp⟩ := ab_zip ab_mlIP_n h
  have h5 := List.all_eq_true.mp ab_ckmlI_ok _ hp
  unfold ab_ckmlI at h5
  simp only [Bool.and_eq_true, decide_eq_true_eq] at h5
  exact ⟨ab_has_U h5.1.1.1.1, ab_has_U h5.1.1.1.2, h5.1.1.2, h5.1.2, h5.2⟩
def ab_mlINP : List (Nat) := [85, 182, 224, 244, 224]
theorem ab_mlINP_n : ab_mlIN.length = ab_mlINP.length := by decide +kernel
def ab_ckmlIN (q : (Nat × Nat × Nat) × Nat) : Bool := ab_has q.2 (.instanceMethod (ab_Y q.1.2.2)) && decide (q.1.2.2 < ab_nM) && decide ((ab_Y q.1.2.2).name = "<init>") && decide (ab_rt q.1.2.2 = none)
set_option maxRecDepth 100000 in
theorem ab_ckmlIN_0 : (((ab_mlIN.zip ab_mlINP).drop 0).take 70).all ab_ckmlIN = true := by decide +kernel
theorem ab_ckmlIN_ok : (ab_mlIN.zip ab_mlINP).all ab_ckmlIN = true := by
  have e : ab_mlIN.zip ab_mlINP = ((ab_mlIN.zip ab_mlINP).drop 0).take 70 := by decide +kernel
  rw [e]; simp only [List.all_append, ab_ckmlIN_0, Bool.and_self]
theorem ab_okmlIN {o j k : Nat} (h : (o, j, k) ∈ ab_mlIN) : Cond.instanceMethod (ab_Y k) ∈ ab_U ∧ k < ab_nM ∧ (ab_Y k).name = "<init>" ∧ ab_rt k = none := by
  obtain ⟨p, hp⟩ := ab_zip ab_mlINP_n h
  have h5 := List.all_eq_true.mp ab_ckmlIN_ok _ hp
  unfold ab_ckmlIN at h5
  simp only [Bool.and_eq_true, decide_eq_true_eq] at h5
  exact ⟨ab_has_U h5.1.1.1, h5.1.1.2, h5.1.2, h5.2⟩
def ab_klTP : List (Nat × Nat × Nat) := [(74, 75, 58), (82, 83, 59), (112, 113, 60), (179, 180, 61), (220, 222, 62), (240, 242, 63), (247, 222, 62), (911, 912, 64)]
theorem ab_klTP_n : ab_klT.length = ab_klTP.length := by decide +kernel
def ab_ckklT (q : (Nat × Nat × Nat) × Nat × Nat × Nat) : Bool := ab_has q.2.1 (.classLink (ab_R q.1.1) q.1.2.1 (ab_R q.1.2.2)) && ab_has q.2.2.1 (.instantiable (ab_R q.1.2.2) (ab_N q.1.2.2)) && ab_has q.2.2.2 (.initialized (ab_R q.1.2.2)) && decide (q.1.2.2 < 8)
set_option maxRecDepth 100000 in
theorem ab_ckklT_0 : (((ab_klT.zip ab_klTP).drop 0).take 70).all ab_ckklT = true := by decide +kernel
theorem ab_ckklT_ok : (ab_klT.zip ab_klTP).all ab_ckklT = true := by
  have e : ab_klT.zip ab_klTP = ((ab_klT.zip ab_klTP).drop 0).take 70 := by decide +kernel
  rw [e]; simp only [List.all_append, ab_ckklT_0, Bool.and_self]
theorem ab_okklT {o j k : Nat} (h : (o, j, k) ∈ ab_klT) : Cond.classLink (ab_R o) j (ab_R k) ∈ ab_U ∧ Cond.instantiable (ab_R k) (ab_N k) ∈ ab_U ∧ Cond.initialized (ab_R k) ∈ ab_U ∧ k < 8 := by
  obtain ⟨p, hp⟩ := ab_zip ab_klTP_n h
  have h5 := List.all_eq_true.mp ab_ckklT_ok _ hp
  unfold ab_ckklT at h5
  simp only [Bool.and_eq_true, decide_eq_true_eq] at h5
  exact ⟨ab_has_U h5.1.1.1, ab_has_U h5.1.1.2, ab_has_U h5.1.2, h5.2⟩
def ab_kcP : List Nat := [118, 322, 331, 355, 356, 357, 407, 473, 535, 579, 588, 616, 830, 840, 841, 842, 890, 1029, 1030, 1099, 1156, 1216, 1256, 1335, 1340, 1341, 1342, 1374]
theorem ab_kcP_n : ab_kcT.length = ab_kcP.length := by decide +kernel
set_option maxRecDepth 100000 in
theorem ab_ckK_ok : (ab_kcT.zip ab_kcP).all (fun q => ab_has q.2 (.constant (ab_R q.1.1) q.1.2.1 q.1.2.2)) = true := by decide +kernel
theorem ab_okK {o j : Nat} {v : Int32} (h : ab_kc o j = some v) : Cond.constant (ab_R o) j v ∈ ab_U := by
  unfold ab_kc at h
  obtain ⟨e, h1, rfl⟩ := Option.map_eq_some_iff.mp h
  have h2 := List.find?_some h1
  simp only [Bool.and_eq_true, beq_iff_eq] at h2
  obtain ⟨p, hp⟩ := ab_zip ab_kcP_n (List.mem_of_find?_eq_some h1)
  have h5 := List.all_eq_true.mp ab_ckK_ok _ hp
  rw [← h2.1, ← h2.2]
  exact ab_has_U h5
def ab_mlOP : List Nat := [79, 87, 117, 184, 226, 246, 916]
def ab_mlCP : List Nat := [522, 812, 860, 876]
theorem ab_mlOP_n : ab_mlO.length = ab_mlOP.length := by decide +kernel
theorem ab_mlCP_n : ab_mlC.length = ab_mlCP.length := by decide +kernel
theorem ab_ckO_ok : (ab_mlO.zip ab_mlOP).all (fun q => ab_has q.2 (.methodLink (ab_R q.1.1) q.1.2 Lib.objectInit)) = true := by decide +kernel
theorem ab_ckC_ok : (ab_mlC.zip ab_mlCP).all (fun q => ab_has q.2 (.methodLink (ab_R q.1.1) q.1.2 arraycopyName)) = true := by decide +kernel
theorem ab_okO {o j : Nat} (h : (o, j) ∈ ab_mlO) : Cond.methodLink (ab_R o) j Lib.objectInit ∈ ab_U := by
  obtain ⟨p, hp⟩ := ab_zip ab_mlOP_n h
  exact ab_has_U (List.all_eq_true.mp ab_ckO_ok _ hp)
theorem ab_okC {o j : Nat} (h : (o, j) ∈ ab_mlC) : Cond.methodLink (ab_R o) j arraycopyName ∈ ab_U := by
  obtain ⟨p, hp⟩ := ab_zip ab_mlCP_n h
  exact ab_has_U (List.all_eq_true.mp ab_ckC_ok _ hp)
theorem ab_oO1 : Cond.instanceMethod Lib.objectInit ∈ ab_U := ab_has_U (p := 80) (by decide +kernel)
theorem ab_oO2 : Cond.code Lib.objectInit ⟨#[0xb1]⟩ 1 none ∈ ab_U := ab_has_U (p := 81) (by decide +kernel)
theorem ab_oC1 : Cond.native arraycopyName ∈ ab_U := ab_has_U (p := 524) (by decide +kernel)
theorem ab_oC2 : Cond.static arraycopyName ∈ ab_U := ab_has_U (p := 523) (by decide +kernel)
theorem ab_oC3 : Cond.initialized "java/lang/System" ∈ ab_U := ab_has_U (p := 68) (by decide +kernel)
theorem ab_oA_int : Cond.arrayClass .int ∈ ab_U := ab_has_U (p := 111) (by decide +kernel)
theorem ab_oA_boolean : Cond.arrayClass .boolean ∈ ab_U := ab_has_U (p := 1018) (by decide +kernel)
theorem ab_oA_char : Cond.arrayClass .char ∈ ab_U := ab_has_U (p := 1017) (by decide +kernel)
theorem ab_oS1 : Cond.fieldLink RJ0 ab_fsV "java/lang/String" "value" "[B" ∈ ab_U := ab_has_U (p := 1395) (by decide +kernel)
theorem ab_oS2 : Cond.fieldLink RJ0 ab_fsC "java/lang/String" "coder" "B" ∈ ab_U := ab_has_U (p := 1396) (by decide +kernel)
theorem ab_oS3 : Cond.fieldLink RJ0 ab_sfZ "java/lang/String" "COMPACT_STRINGS" "Z" ∈ ab_U := ab_has_U (p := 664) (by decide +kernel)
theorem ab_oS4 : Cond.fieldLink RJ0 ab_sfF "jdk/internal/util/Preconditions" "SIOOBE_FORMATTER" "Ljava/util/function/BiFunction;" ∈ ab_U := ab_has_U (p := 680) (by decide +kernel)
theorem ab_oQ : Cond.classLink (ab_R ab_kq.1) ab_kq.2 "[[I" ∈ ab_U := ab_has_U (p := 88) (by decide +kernel)
