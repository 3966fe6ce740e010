/-! what the tables' words give, checked once, by their places; written by wip/tools/gen_checks.py -/
def ab_U : List Cond := lw_tbl.filter goodWord
def ab_has (p : Nat) (w : Cond) : Bool := decide (lw_tbl[p]? = some w) && goodWord w
theorem ab_has_U {p : Nat} {w : Cond} (h : ab_has p w = true) : w ∈ ab_U := by
  unfold ab_has at h
  rw [Bool.and_eq_true, decide_eq_true_eq] at h
  exact List.mem_filter.mpr ⟨List.mem_of_getElem? h.1, h.2⟩
def ab_flP : List Nat := [91, 92, 93, 94, 95, 96, 97, 98, 120, 121, 122, 123, 124, 125, 126, 127, 128, 129, 130, 131, 132, 133, 134, 135, 136, 137, 138, 139, 140, 141, 142, 143, 144, 145, 146, 147, 148, 186, 187, 188, 189, 190, 191, 192, 193, 194, 195, 196, 197, 198, 199, 200, 201, 228, 229, 230, 231, 232, 233, 250, 251, 252, 253, 254, 255, 256, 257, 258, 259, 260, 274, 275, 276, 277, 278, 279, 280, 281, 282, 283, 284, 927, 928, 929, 930, 931, 932, 933, 934, 935, 936, 937, 938, 939, 940, 941, 942, 943, 944, 945, 946, 947, 948, 949, 950, 951, 952, 953, 954, 955, 956, 957, 958, 959]
theorem ab_flP_n : ab_flT.length = ab_flP.length := by decide +kernel
def ab_ckF (q : (Nat × Nat × Nat × Nat) × Nat) : Bool := ab_has q.2 (.fieldLink (ab_R q.1.1) q.1.2.1 (ab_R q.1.2.2.1) (ab_T q.1.2.2.1 q.1.2.2.2).2.1 (ab_T q.1.2.2.1 q.1.2.2.2).2.2.1) && decide ((ab_T q.1.2.2.1 q.1.2.2.2).1 = ab_R q.1.2.2.1) && decide (q.1.2.2.2 < ab_N q.1.2.2.1) && decide (q.1.2.2.1 < 8)
set_option maxRecDepth 100000 in
theorem ab_ckF_ok : (ab_flT.zip ab_flP).all ab_ckF = true := by decide +kernel
theorem ab_zip {α β : Type} {T : List α} {P : List β} (hn : T.length = P.length) {e : α} (h : e ∈ T) : ∃ p, (e, p) ∈ T.zip P := by
  obtain ⟨i, hi, rfl⟩ := List.getElem_of_mem h
  exact ⟨P[i]'(by omega), List.mem_iff_getElem.mpr ⟨i, by rw [List.length_zip]; omega, by rw [List.getElem_zip]⟩⟩
theorem ab_mk_mem {T : List (Nat × Nat × Nat)} {o j k : Nat} (h : ab_mk T o j = some k) : (o, j, k) ∈ T := by
  unfold ab_mk at h
  obtain ⟨e, h1, rfl⟩ := Option.map_eq_some_iff.mp h
  have h2 := List.find?_some h1
  simp only [Bool.and_eq_true, beq_iff_eq] at h2
  have h3 := List.mem_of_find?_eq_some h1
  rw [← h2.1, ← h2.2]
  exact h3
theorem ab_okF {o j ci fi : Nat} (h : ab_fl o j = some (ci, fi)) : Cond.fieldLink (ab_R o) j (ab_R ci) (ab_T ci fi).2.1 (ab_T ci fi).2.2.1 ∈ ab_U ∧ (ab_T ci fi).1 = ab_R ci ∧ fi < ab_N ci ∧ ci < 8 := by
  unfold ab_fl at h
  obtain ⟨e, h1, h4⟩ := Option.map_eq_some_iff.mp h
  have h2 := List.find?_some h1
  simp only [Bool.and_eq_true, beq_iff_eq] at h2
  have h3 := List.mem_of_find?_eq_some h1
  obtain ⟨p, hp⟩ := ab_zip ab_flP_n h3
  have h5 := List.all_eq_true.mp ab_ckF_ok _ hp
  obtain ⟨e1, e2, e3, e4⟩ := e
  cases h4
  obtain ⟨rfl, rfl⟩ := h2
  unfold ab_ckF at h5
  simp only [Bool.and_eq_true, decide_eq_true_eq] at h5
  exact ⟨ab_has_U h5.1.1.1, h5.1.1.2, h5.1.2, h5.2⟩
def ab_wsT : List (Nat × Nat × Nat) := [(1, 0, 99), (1, 1, 101), (1, 2, 103), (1, 3, 105), (1, 4, 107), (1, 5, 109), (2, 0, 149), (2, 1, 151), (2, 2, 153), (2, 3, 155), (2, 4, 157), (2, 5, 159), (2, 6, 161), (2, 7, 163), (2, 8, 165), (2, 9, 167), (2, 10, 169), (2, 11, 171), (2, 12, 173), (2, 13, 175), (2, 14, 177), (3, 0, 234), (3, 1, 236), (3, 2, 238), (4, 0, 261), (4, 1, 263), (4, 2, 265), (4, 3, 267), (4, 4, 269), (4, 5, 271), (5, 0, 202), (5, 1, 204), (5, 2, 206), (5, 3, 208), (5, 4, 210), (5, 5, 212), (5, 6, 214), (5, 7, 216), (5, 8, 218), (6, 0, 285), (6, 1, 287), (6, 2, 289), (6, 3, 291), (6, 4, 293), (6, 5, 295), (6, 6, 297), (6, 7, 299), (6, 8, 301), (6, 9, 303), (6, 10, 305), (7, 0, 960), (7, 1, 962), (7, 2, 964), (7, 3, 966), (7, 4, 968), (7, 5, 970), (7, 6, 972), (7, 7, 974), (7, 8, 976), (7, 9, 978), (7, 10, 980), (7, 11, 982), (7, 12, 984), (7, 13, 986), (7, 14, 988), (7, 15, 990), (7, 16, 992), (7, 17, 994), (7, 18, 996), (7, 19, 998), (7, 20, 1000), (7, 21, 1002), (7, 22, 1004), (7, 23, 1006), (7, 24, 1008), (7, 25, 1010), (7, 26, 1012), (7, 27, 1014), (7, 28, 1016), (7, 29, 1018), (7, 30, 1020), (7, 31, 1022), (7, 32, 1024)]
set_option maxRecDepth 100000 in
theorem ab_wsT_ok : ab_wsT.all (fun q => ab_has q.2.2 (u_lay (ab_R q.1) (ab_T q.1) q.2.1)) = true := by decide +kernel
theorem ab_wsT_all : ∀ c, c < 8 → ∀ k, k < ab_N c → ∃ p, (c, k, p) ∈ ab_wsT := by
  have h : (List.range 8).all (fun c => (List.range (ab_N c)).all fun k => ab_wsT.any fun q => q.1 == c && q.2.1 == k) = true := by decide +kernel
  intro c hc k hk
  have h1 := List.all_eq_true.mp (List.all_eq_true.mp h c (List.mem_range.mpr hc)) k (List.mem_range.mpr hk)
  obtain ⟨q, hq, h2⟩ := List.any_eq_true.mp h1
  simp only [Bool.and_eq_true, beq_iff_eq] at h2
  exact ⟨q.2.2, by rw [← h2.1, ← h2.2]; exact hq⟩
theorem ab_okW {c : Nat} (hc : c < 8) : ∀ w ∈ u_ws (ab_R c) (ab_T c) (ab_N c), w ∈ ab_U := by
  intro w hw
  unfold u_ws at hw
  obtain ⟨k, hk, rfl⟩ := List.mem_map.mp hw
  obtain ⟨p, hp⟩ := ab_wsT_all c hc k (List.mem_range.mp hk)
  exact ab_has_U (List.all_eq_true.mp ab_wsT_ok _ hp)
def ab_msP : List Nat := [66, 66, 66, 60, 60, 60, 60, 60, 60, 60, 60, 60, 61, 61, 61, 61, 61, 61, 61, 61, 61, 61, 61, 61, 61, 61, 61, 61, 61, 61, 61, 61, 61, 61, 61, 61, 61, 61, 61, 61, 61, 61, 61, 61, 63, 63, 63, 63, 63, 63, 63, 64, 64, 62, 62, 62, 62, 62, 62, 62, 62, 62, 62, 62, 62, 62, 62, 62, 62, 62, 59, 59, 59, 59, 59, 59, 59, 59, 59, 59, 59, 59, 59, 59, 59, 59, 59, 59, 59, 59, 59, 59, 59, 59, 59, 59, 59, 59, 59, 59, 59, 59, 59, 59, 59, 59, 59, 59, 59, 59, 59, 59, 59, 59, 59, 59, 59, 59, 59, 65, 65, 65, 65, 65, 65, 65, 65, 65, 65, 65, 65, 65, 65, 65, 65, 65, 65, 65, 65, 65, 65, 65, 65, 65, 65, 65, 65, 65, 65, 65, 65, 65, 65, 65, 65, 65, 65, 65, 65, 65, 65, 65, 65, 65, 65, 65, 65, 65, 65, 65, 65, 65, 65, 65, 65, 65, 65, 65, 65, 65, 65, 65, 65, 65, 65, 65, 65, 65, 65, 65, 65, 65, 65, 65, 65, 65, 65, 65, 65, 65, 65, 65, 65, 65, 65, 65, 65, 65, 65, 65, 65, 65, 65, 65, 67, 68, 68, 68, 70, 70, 70, 70, 70, 70, 70, 70, 71, 71, 71, 71, 72, 72]
def ab_isCd (w : Cond) (y : MethodName) (n : Nat) (r : Option FieldType) : Bool := match w with
  | .code y' _ n' r' => decide (y' = y) && decide (n' = n) && decide (r' = r)
  | _ => false
theorem ab_isCd_e {w : Cond} {y : MethodName} {n : Nat} {r : Option FieldType} (h : ab_isCd w y n r = true) : w = .code y (ab_cb w) n r := by
  unfold ab_isCd at h
  split at h
  · simp only [Bool.and_eq_true, decide_eq_true_eq] at h
    obtain ⟨⟨rfl, rfl⟩, rfl⟩ := h
    rfl
  · cases h
def ab_ckM (k : Nat) (p : Nat) : Bool := ab_isCd (ab_cd k) (ab_Y k) (ab_mL k) (ab_rt k) && ab_has p (.initialized (ab_Y k).cls) && plainFor (ab_Y k) && decide ((ab_Y k).cls ≠ "java/lang/invoke/MethodHandle" ∧ (ab_Y k).cls ≠ "java/lang/invoke/VarHandle" ∧ (parseMethodDescriptor (ab_Y k).desc).map (fun d => d.parameters.length) = some (ab_np k)) && decide ((ab_Y k).cls = ab_R (ab_own k)) && decide (ab_mL k ≤ 20)
set_option maxRecDepth 100000 in
theorem ab_ckM_0 : ((List.range 58).drop 0).all (fun k => ab_ckM k (ab_msP.getD k 0)) = true := by decide +kernel
set_option maxRecDepth 100000 in
theorem ab_ckM_58 : ((List.range 116).drop 58).all (fun k => ab_ckM k (ab_msP.getD k 0)) = true := by decide +kernel
set_option maxRecDepth 100000 in
theorem ab_ckM_116 : ((List.range 174).drop 116).all (fun k => ab_ckM k (ab_msP.getD k 0)) = true := by decide +kernel
set_option maxRecDepth 100000 in
theorem ab_ckM_174 : ((List.range 232).drop 174).all (fun k => ab_ckM k (ab_msP.getD k 0)) = true := by decide +kernel
theorem ab_ckM_all {k : Nat} (h : k < ab_nM) : ab_ckM k (ab_msP.getD k 0) = true := by
  have h : k < 232 := h
  by_cases h0 : k < 58
  · exact List.all_eq_true.mp ab_ckM_0 k (List.mem_iff_getElem.mpr ⟨k - 0, by rw [List.length_drop, List.length_range]; omega, by rw [List.getElem_drop, List.getElem_range]; omega⟩)
  by_cases h58 : k < 116
  · exact List.all_eq_true.mp ab_ckM_58 k (List.mem_iff_getElem.mpr ⟨k - 58, by rw [List.length_drop, List.length_range]; omega, by rw [List.getElem_drop, List.getElem_range]; omega⟩)
  by_cases h116 : k < 174
  · exact List.all_eq_true.mp ab_ckM_116 k (List.mem_iff_getElem.mpr ⟨k - 116, by rw [List.length_drop, List.length_range]; omega, by rw [List.getElem_drop, List.getElem_range]; omega⟩)
  by_cases h174 : k < 232
  · exact List.all_eq_true.mp ab_ckM_174 k (List.mem_iff_getElem.mpr ⟨k - 174, by rw [List.length_drop, List.length_range]; omega, by rw [List.getElem_drop, List.getElem_range]; omega⟩)
  omega
theorem ab_cd_mem {k : Nat} {y : MethodName} {n : Nat} {r : Option FieldType} (h : ab_isCd (ab_cd k) y n r = true) : Cond.code y (ab_cb (ab_cd k)) n r ∈ ab_U := by
  have e := ab_isCd_e h
  have h1 : ab_cd k ∈ lw_tbl := by
    unfold ab_cd at h ⊢
    rw [List.getD_eq_getElem?_getD] at h ⊢
    cases hq : lw_tbl[ab_cp.getD k 0]? with
    | none => rw [hq] at h; cases h
    | some w => rw [Option.getD_some]; exact List.mem_of_getElem? hq
  rw [e] at h1
  exact List.mem_filter.mpr ⟨h1, rfl⟩
theorem ab_okM {k : Nat} (h : k < ab_nM) : Cond.code (ab_Y k) (ab_B k) (ab_mL k) (ab_rt k) ∈ ab_U ∧ Cond.initialized (ab_Y k).cls ∈ ab_U ∧ plainFor (ab_Y k) = true ∧ ((ab_Y k).cls ≠ "java/lang/invoke/MethodHandle" ∧ (ab_Y k).cls ≠ "java/lang/invoke/VarHandle" ∧ (parseMethodDescriptor (ab_Y k).desc).map (fun d => d.parameters.length) = some (ab_np k)) ∧ (ab_Y k).cls = ab_R (ab_own k) ∧ ab_mL k ≤ 20 := by
  have h5 := ab_ckM_all h
  unfold ab_ckM at h5
  simp only [Bool.and_eq_true, decide_eq_true_eq] at h5
  refine ⟨?_, ab_has_U h5.1.1.1.1.2, h5.1.1.1.2, h5.1.1.2, h5.1.2, h5.2⟩
  unfold ab_B
  rw [if_neg (Nat.ne_of_lt h)]
  exact ab_cd_mem h5.1.1.1.1.1
def ab_mlVP : List (Nat × Nat × Nat) := [(308, 309, 310), (324, 325, 326), (328, 329, 330), (333, 334, 335), (337, 338, 339), (341, 342, 343), (345, 347, 0), (349, 351, 1), (353, 354, 355), (363, 364, 365), (367, 368, 369), (372, 374, 2), (391, 393, 3), (398, 399, 400), (402, 403, 404), (410, 411, 412), (416, 417, 418), (420, 421, 422), (424, 425, 426), (428, 429, 430), (432, 433, 434), (436, 437, 438), (440, 441, 442), (444, 354, 355), (445, 446, 447), (449, 403, 404), (450, 451, 452), (454, 455, 456), (459, 460, 461), (463, 399, 400), (464, 465, 466), (468, 469, 470), (472, 329, 330), (473, 474, 475), (477, 478, 479), (482, 325, 326), (483, 484, 485), (487, 488, 489), (491, 492, 493), (495, 496, 497), (499, 433, 434), (500, 342, 343), (501, 460, 461), (502, 503, 504), (506, 507, 508), (510, 511, 512), (514, 515, 516), (518, 519, 520), (522, 523, 524), (526, 527, 528), (533, 534, 535), (537, 492, 493), (538, 539, 540), (542, 455, 456), (544, 545, 546), (548, 549, 550), (552, 554, 4), (556, 557, 558), (560, 561, 562), (564, 565, 566), (569, 570, 571), (573, 574, 575), (577, 578, 579), (584, 585, 586), (589, 591, 5), (593, 594, 595), (601, 602, 603), (605, 606, 607), (609, 610, 611), (613, 614, 615), (617, 618, 619), (621, 622, 623), (626, 627, 628), (630, 631, 632), (634, 635, 636), (638, 639, 640), (642, 644, 6), (646, 648, 7), (652, 654, 8), (662, 664, 9), (666, 667, 668), (670, 671, 672), (676, 677, 678), (680, 681, 682), (714, 716, 10), (718, 720, 11), (722, 724, 12), (726, 728, 13), (730, 732, 14), (734, 736, 15), (744, 745, 746), (748, 749, 750), (752, 667, 668), (800, 802, 16), (805, 807, 17), (818, 819, 820), (824, 825, 826), (828, 829, 830), (832, 833, 834), (836, 837, 838), (841, 842, 843), (845, 846, 847), (853, 854, 855), (858, 859, 860), (862, 863, 864), (866, 867, 868), (871, 872, 873), (878, 879, 880), (882, 883, 884), (887, 888, 889), (892, 893, 894), (896, 897, 898), (901, 902, 903), (905, 906, 907), (909, 910, 911), (913, 914, 915), (917, 918, 919), (1029, 1030, 1031), (1041, 1043, 18), (1045, 1047, 19), (1049, 1050, 1051), (1053, 1055, 20), (1057, 1059, 21), (1061, 1063, 22), (1065, 1067, 23), (1069, 1071, 24), (1073, 1075, 25), (1080, 1082, 26), (1090, 1092, 27), (1094, 1096, 28), (1098, 1100, 29), (1102, 1103, 1104), (1110, 1111, 1112), (1114, 1116, 30), (1118, 1119, 1120), (1122, 1123, 1124), (1126, 1127, 1128), (1130, 1132, 31), (1134, 1135, 1136), (1138, 1139, 1140), (1142, 1144, 32), (1146, 1148, 33), (1150, 1152, 34), (1154, 1155, 1156), (1158, 1159, 1160), (1162, 1164, 35), (1167, 1168, 1169), (1171, 1172, 1173), (1175, 1177, 36), (1179, 1181, 37), (1183, 1185, 38), (1187, 1189, 39), (1191, 1192, 1193), (1195, 1197, 40), (1199, 1201, 41), (1203, 1205, 42), (1207, 1208, 1209), (1211, 1213, 43), (1218, 1220, 44), (1222, 1223, 1224), (1227, 1228, 1229), (1231, 1232, 1233), (1235, 1237, 45), (1239, 1240, 1241), (1243, 1245, 46), (1247, 1248, 1249), (1251, 1252, 1253), (1255, 1257, 47), (1259, 1260, 1261), (1270, 1271, 1272), (1274, 1275, 1276), (1278, 1279, 1280), (1282, 1283, 1284), (1286, 1287, 1288), (1290, 1292, 48), (1294, 1296, 49), (1298, 1300, 50), (1302, 1304, 51), (1306, 1308, 52), (1310, 1312, 53), (1314, 1316, 54), (1318, 1320, 55), (1325, 1327, 56), (1329, 1331, 57), (1333, 1334, 1335), (1337, 1338, 1339), (1341, 1342, 1343), (1346, 1347, 1348), (1353, 1354, 1355), (1357, 1358, 1359), (1361, 1362, 1363), (1365, 1366, 1367), (1372, 1373, 1374), (1376, 1377, 1378), (1380, 1381, 1382), (1385, 1386, 1387), (1389, 1390, 1391), (1393, 1394, 1395), (1397, 1398, 1399), (1401, 1402, 1403)]
theorem ab_mlVP_n : ab_mlV.length = ab_mlVP.length := by decide +kernel
def ab_ckmlV (q : (Nat × Nat × Nat) × Nat × Nat × Nat) : Bool := ab_has q.2.1 (.methodLink (ab_R q.1.1) q.1.2.1 (ab_Y q.1.2.2)) && ab_has q.2.2.1 (.instanceMethod (ab_Y q.1.2.2)) && ab_has q.2.2.2 (.selects (ab_Y q.1.2.2).cls (ab_Y q.1.2.2) (ab_Y q.1.2.2)) && decide (q.1.2.2 < ab_nM)
set_option maxRecDepth 100000 in
theorem ab_ckmlV_0 : (((ab_mlV.zip ab_mlVP).drop 0).take 70).all ab_ckmlV = true := by decide +kernel
set_option maxRecDepth 100000 in
theorem ab_ckmlV_70 : (((ab_mlV.zip ab_mlVP).drop 70).take 70).all ab_ckmlV = true := by decide +kernel
set_option maxRecDepth 100000 in
theorem ab_ckmlV_140 : (((ab_mlV.zip ab_mlVP).drop 140).take 70).all ab_ckmlV = true := by decide +kernel
theorem ab_ckmlV_ok : (ab_mlV.zip ab_mlVP).all ab_ckmlV = true := by
  have e : ab_mlV.zip ab_mlVP = ((ab_mlV.zip ab_mlVP).drop 0).take 70 ++ (((ab_mlV.zip ab_mlVP).drop 70).take 70 ++ (((ab_mlV.zip ab_mlVP).drop 140).take 70)) := by decide +kernel
  rw [e]; simp only [List.all_append, ab_ckmlV_0, ab_ckmlV_70, ab_ckmlV_140, Bool.and_self]
theorem ab_okmlV {o j k : Nat} (h : (o, j, k) ∈ ab_mlV) : Cond.methodLink (ab_R o) j (ab_Y k) ∈ ab_U ∧ Cond.instanceMethod (ab_Y k) ∈ ab_U ∧ Cond.selects (ab_Y k).cls (ab_Y k) (ab_Y k) ∈ ab_U ∧ k < ab_nM := by
  obtain ⟨p, hp⟩ := ab_zip ab_mlVP_n h
  have h5 := List.all_eq_true.mp ab_ckmlV_ok _ hp
  unfold ab_ckmlV at h5
  simp only [Bool.and_eq_true, decide_eq_true_eq] at h5
  exact ⟨ab_has_U h5.1.1.1, ab_has_U h5.1.1.2, ab_has_U h5.1.2, h5.2⟩
def ab_mlSP : List (Nat × Nat) := [(312, 313), (318, 316), (319, 320), (357, 358), (376, 377), (379, 380), (382, 383), (385, 386), (388, 389), (395, 396), (406, 407), (409, 389), (414, 396), (458, 358), (581, 582), (598, 599), (651, 386), (656, 657), (684, 685), (687, 688), (692, 693), (738, 739), (753, 754), (756, 757), (759, 389), (760, 386), (761, 762), (779, 780), (810, 811), (857, 383), (875, 876), (891, 407), (1033, 1034), (1036, 1037), (1077, 1078), (1084, 1085), (1087, 1088), (1106, 1107), (1215, 1216), (1263, 1264), (1267, 1268), (1322, 1323), (1369, 1370)]
theorem ab_mlSP_n : ab_mlS.length = ab_mlSP.length := by decide +kernel
def ab_ckmlS (q : (Nat × Nat × Nat) × Nat × Nat) : Bool := ab_has q.2.1 (.methodLink (ab_R q.1.1) q.1.2.1 (ab_Y q.1.2.2)) && ab_has q.2.2 (.static (ab_Y q.1.2.2)) && decide (q.1.2.2 < ab_nM)
set_option maxRecDepth 100000 in
theorem ab_ckmlS_0 : (((ab_mlS.zip ab_mlSP).drop 0).take 70).all ab_ckmlS = true := by decide +kernel
theorem ab_ckmlS_ok : (ab_mlS.zip ab_mlSP).all ab_ckmlS = true := by
  have e : ab_mlS.zip ab_mlSP = ((ab_mlS.zip ab_mlSP).drop 0).take 70 := by decide +kernel
  rw [e]; simp only [List.all_append, ab_ckmlS_0, Bool.and_self]
theorem ab_okmlS {o j k : Nat} (h : (o, j, k) ∈ ab_mlS) : Cond.methodLink (ab_R o) j (ab_Y k) ∈ ab_U ∧ Cond.static (ab_Y k) ∈ ab_U ∧ k < ab_nM := by
  obtain ⟨p, hp⟩ := ab_zip ab_mlSP_n h
  have h5 := List.all_eq_true.mp ab_ckmlS_ok _ hp
  unfold ab_ckmlS at h5
  simp only [Bool.and_eq_true, decide_eq_true_eq] at h5
  exact ⟨ab_has_U h5.1.1, ab_has_U h5.1.2, h5.2⟩
def ab_mlSNP : List (Nat) := [316, 316, 316, 316, 316]
theorem ab_mlSNP_n : ab_mlSN.length = ab_mlSNP.length := by decide +kernel
def ab_ckmlSN (q : (Nat × Nat × Nat) × Nat) : Bool := ab_has q.2 (.static (ab_Y q.1.2.2)) && decide (q.1.2.2 < ab_nM)
set_option maxRecDepth 100000 in
theorem ab_ckmlSN_0 : (((ab_mlSN.zip ab_mlSNP).drop 0).take 70).all ab_ckmlSN = true := by decide +kernel
theorem ab_ckmlSN_ok : (ab_mlSN.zip ab_mlSNP).all ab_ckmlSN = true := by
  have e : ab_mlSN.zip ab_mlSNP = ((ab_mlSN.zip ab_mlSNP).drop 0).take 70 := by decide +kernel
  rw [e]; simp only [List.all_append, ab_ckmlSN_0, Bool.and_self]
theorem ab_okmlSN {o j k : Nat} (h : (o, j, k) ∈ ab_mlSN) : Cond.static (ab_Y k) ∈ ab_U ∧ k < ab_nM := by
  obtain ⟨p, hp⟩ := ab_zip ab_mlSNP_n h
  have h5 := List.all_eq_true.mp ab_ckmlSN_ok _ hp
  unfold ab_ckmlSN at h5
  simp only [Bool.and_eq_true, decide_eq_true_eq] at h5
  exact ⟨ab_has_U h5.1, h5.2⟩
def ab_mlIP : List (Nat × Nat) := [(77, 78), (115, 116), (923, 924)]
theorem ab_mlIP_n : ab_mlI.length = ab_mlIP.length := by decide +kernel
def ab_ckmlI (q : (Nat × Nat × Nat) × Nat × Nat) : Bool := ab_has q.2.1 (.methodLink (ab_R q.1.1) q.1.2.1 (ab_Y q.1.2.2)) && ab_has q.2.2 (.instanceMethod (ab_Y q.1.2.2)) && decide (q.1.2.2 < ab_nM) && decide ((ab_Y q.1.2.2).name = "<init>") && decide (ab_rt q.1.2.2 = none)
set_option maxRecDepth 100000 in
theorem ab_ckmlI_0 : (((ab_mlI.zip ab_mlIP).drop 0).take 70).all ab_ckmlI = true := by decide +kernel
theorem ab_ckmlI_ok : (ab_mlI.zip ab_mlIP).all ab_ckmlI = true := by
  have e : ab_mlI.zip ab_mlIP = ((ab_mlI.zip ab_mlIP).drop 0).take 70 := by decide +kernel
  rw [e]; simp only [List.all_append, ab_ckmlI_0, Bool.and_self]
theorem ab_okmlI {o j k : Nat} (h : (o, j, k) ∈ ab_mlI) : Cond.methodLink (ab_R o) j (ab_Y k) ∈ ab_U ∧ Cond.instanceMethod (ab_Y k) ∈ ab_U ∧ k < ab_nM ∧ (ab_Y k).name = "<init>" ∧ ab_rt k = none := by
  obtain ⟨p, hp⟩ := ab_zip ab_mlIP_n h
  have h5 := List.all_eq_true.mp ab_ckmlI_ok _ hp
  unfold ab_ckmlI at h5
  simp only [Bool.and_eq_true, decide_eq_true_eq] at h5
  exact ⟨ab_has_U h5.1.1.1.1, ab_has_U h5.1.1.1.2, h5.1.1.2, h5.1.2, h5.2⟩
def ab_mlINP : List (Nat) := [86, 183, 225, 245, 225]
theorem ab_mlINP_n : ab_mlIN.length = ab_mlINP.length := by decide +kernel
def ab_ckmlIN (q : (Nat × Nat × Nat) × Nat) : Bool := ab_has q.2 (.instanceMethod (ab_Y q.1.2.2)) && decide (q.1.2.2 < ab_nM) && decide ((ab_Y q.1.2.2).name = "<init>") && decide (ab_rt q.1.2.2 = none)
set_option maxRecDepth 100000 in
theorem ab_ckmlIN_0 : (((ab_mlIN.zip ab_mlINP).drop 0).take 70).all ab_ckmlIN = true := by decide +kernel
theorem ab_ckmlIN_ok : (ab_mlIN.zip ab_mlINP).all ab_ckmlIN = true := by
  have e : ab_mlIN.zip ab_mlINP = ((ab_mlIN.zip ab_mlINP).drop 0).take 70 := by decide +kernel
  rw [e]; simp only [List.all_append, ab_ckmlIN_0, Bool.and_self]
theorem ab_okmlIN {o j k : Nat} (h : (o, j, k) ∈ ab_mlIN) : Cond.instanceMethod (ab_Y k) ∈ ab_U ∧ k < ab_nM ∧ (ab_Y k).name = "<init>" ∧ ab_rt k = none := by
  obtain ⟨p, hp⟩ := ab_zip ab_mlINP_n h
  have h5 := List.all_eq_true.mp ab_ckmlIN_ok _ hp
  unfold ab_ckmlIN at h5
  simp only [Bool.and_eq_true, decide_eq_true_eq] at h5
  exact ⟨ab_has_U h5.1.1.1, h5.1.1.2, h5.1.2, h5.2⟩
def ab_klTP : List (Nat × Nat × Nat) := [(75, 76, 59), (83, 84, 60), (113, 114, 61), (180, 181, 62), (221, 223, 63), (241, 243, 64), (248, 223, 63), (921, 922, 65)]
theorem ab_klTP_n : ab_klT.length = ab_klTP.length := by decide +kernel
def ab_ckklT (q : (Nat × Nat × Nat) × Nat × Nat × Nat) : Bool := ab_has q.2.1 (.classLink (ab_R q.1.1) q.1.2.1 (ab_R q.1.2.2)) && ab_has q.2.2.1 (.instantiable (ab_R q.1.2.2) (ab_N q.1.2.2)) && ab_has q.2.2.2 (.initialized (ab_R q.1.2.2)) && decide (q.1.2.2 < 8)
set_option maxRecDepth 100000 in
theorem ab_ckklT_0 : (((ab_klT.zip ab_klTP).drop 0).take 70).all ab_ckklT = true := by decide +kernel
theorem ab_ckklT_ok : (ab_klT.zip ab_klTP).all ab_ckklT = true := by
  have e : ab_klT.zip ab_klTP = ((ab_klT.zip ab_klTP).drop 0).take 70 := by decide +kernel
  rw [e]; simp only [List.all_append, ab_ckklT_0, Bool.and_self]
theorem ab_okklT {o j k : Nat} (h : (o, j, k) ∈ ab_klT) : Cond.classLink (ab_R o) j (ab_R k) ∈ ab_U ∧ Cond.instantiable (ab_R k) (ab_N k) ∈ ab_U ∧ Cond.initialized (ab_R k) ∈ ab_U ∧ k < 8 := by
  obtain ⟨p, hp⟩ := ab_zip ab_klTP_n h
  have h5 := List.all_eq_true.mp ab_ckklT_ok _ hp
  unfold ab_ckklT at h5
  simp only [Bool.and_eq_true, decide_eq_true_eq] at h5
  exact ⟨ab_has_U h5.1.1.1, ab_has_U h5.1.1.2, ab_has_U h5.1.2, h5.2⟩
def ab_kcP : List Nat := [119, 323, 332, 360, 361, 362, 415, 481, 543, 568, 588, 597, 625, 840, 850, 851, 852, 900, 1039, 1040, 1109, 1166, 1226, 1266, 1345, 1350, 1351, 1352, 1384]
theorem ab_kcP_n : ab_kcT.length = ab_kcP.length := by decide +kernel
set_option maxRecDepth 100000 in
theorem ab_ckK_ok : (ab_kcT.zip ab_kcP).all (fun q => ab_has q.2 (.constant (ab_R q.1.1) q.1.2.1 q.1.2.2)) = true := by decide +kernel
theorem ab_okK {o j : Nat} {v : Int32} (h : ab_kc o j = some v) : Cond.constant (ab_R o) j v ∈ ab_U := by
  unfold ab_kc at h
  obtain ⟨e, h1, rfl⟩ := Option.map_eq_some_iff.mp h
  have h2 := List.find?_some h1
  simp only [Bool.and_eq_true, beq_iff_eq] at h2
  obtain ⟨p, hp⟩ := ab_zip ab_kcP_n (List.mem_of_find?_eq_some h1)
  have h5 := List.all_eq_true.mp ab_ckK_ok _ hp
  rw [← h2.1, ← h2.2]
  exact ab_has_U h5
def ab_mlOP : List Nat := [80, 88, 118, 185, 227, 247, 926]
def ab_mlCP : List Nat := [530, 822, 870, 886]
theorem ab_mlOP_n : ab_mlO.length = ab_mlOP.length := by decide +kernel
theorem ab_mlCP_n : ab_mlC.length = ab_mlCP.length := by decide +kernel
theorem ab_ckO_ok : (ab_mlO.zip ab_mlOP).all (fun q => ab_has q.2 (.methodLink (ab_R q.1.1) q.1.2 Lib.objectInit)) = true := by decide +kernel
theorem ab_ckC_ok : (ab_mlC.zip ab_mlCP).all (fun q => ab_has q.2 (.methodLink (ab_R q.1.1) q.1.2 arraycopyName)) = true := by decide +kernel
theorem ab_okO {o j : Nat} (h : (o, j) ∈ ab_mlO) : Cond.methodLink (ab_R o) j Lib.objectInit ∈ ab_U := by
  obtain ⟨p, hp⟩ := ab_zip ab_mlOP_n h
  exact ab_has_U (List.all_eq_true.mp ab_ckO_ok _ hp)
theorem ab_okC {o j : Nat} (h : (o, j) ∈ ab_mlC) : Cond.methodLink (ab_R o) j arraycopyName ∈ ab_U := by
  obtain ⟨p, hp⟩ := ab_zip ab_mlCP_n h
  exact ab_has_U (List.all_eq_true.mp ab_ckC_ok _ hp)
theorem ab_oO1 : Cond.instanceMethod Lib.objectInit ∈ ab_U := ab_has_U (p := 81) (by decide +kernel)
theorem ab_oO2 : Cond.code Lib.objectInit ⟨#[0xb1]⟩ 1 none ∈ ab_U := ab_has_U (p := 82) (by decide +kernel)
theorem ab_oC1 : Cond.native arraycopyName ∈ ab_U := ab_has_U (p := 532) (by decide +kernel)
theorem ab_oC2 : Cond.static arraycopyName ∈ ab_U := ab_has_U (p := 531) (by decide +kernel)
theorem ab_oC3 : Cond.initialized "java/lang/System" ∈ ab_U := ab_has_U (p := 69) (by decide +kernel)
theorem ab_oA_int : Cond.arrayClass .int ∈ ab_U := ab_has_U (p := 112) (by decide +kernel)
theorem ab_oA_boolean : Cond.arrayClass .boolean ∈ ab_U := ab_has_U (p := 1028) (by decide +kernel)
theorem ab_oA_char : Cond.arrayClass .char ∈ ab_U := ab_has_U (p := 1027) (by decide +kernel)
theorem ab_oS1 : Cond.fieldLink RJ0 ab_fsV "java/lang/String" "value" "[B" ∈ ab_U := ab_has_U (p := 1405) (by decide +kernel)
theorem ab_oS2 : Cond.fieldLink RJ0 ab_fsC "java/lang/String" "coder" "B" ∈ ab_U := ab_has_U (p := 1406) (by decide +kernel)
theorem ab_oS3 : Cond.fieldLink RJ0 ab_sfZ "java/lang/String" "COMPACT_STRINGS" "Z" ∈ ab_U := ab_has_U (p := 674) (by decide +kernel)
theorem ab_oS4 : Cond.fieldLink RJ0 ab_sfF "jdk/internal/util/Preconditions" "SIOOBE_FORMATTER" "Ljava/util/function/BiFunction;" ∈ ab_U := ab_has_U (p := 690) (by decide +kernel)
theorem ab_oQ : Cond.classLink (ab_R ab_kq.1) ab_kq.2 "[[I" ∈ ab_U := ab_has_U (p := 89) (by decide +kernel)
