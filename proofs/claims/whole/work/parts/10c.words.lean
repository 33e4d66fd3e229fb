/-! ===== the methods against the tables ===== -/
def am_cw_0 : Lean.RArray (Nat × Nat) := .branch 3 (.branch 1 (.leaf (0, 939)) (.branch 2 (.leaf (1, 956)) (.leaf (2, 961)))) (.branch 4 (.leaf (3, 967)) (.branch 5 (.leaf (4, 722)) (.leaf (5, 775))))
def am_cw_1 : Lean.RArray (Nat × Nat) := .branch 9 (.branch 7 (.leaf (6, 841)) (.branch 8 (.leaf (7, 926)) (.leaf (8, 930)))) (.branch 10 (.leaf (9, 780)) (.branch 11 (.leaf (10, 784)) (.leaf (11, 790))))
def am_cw_2 : Lean.RArray (Nat × Nat) := .branch 15 (.branch 13 (.leaf (12, 799)) (.branch 14 (.leaf (13, 814)) (.leaf (14, 824)))) (.branch 16 (.leaf (15, 828)) (.branch 17 (.leaf (16, 832)) (.leaf (17, 849))))
def am_cw_3 : Lean.RArray (Nat × Nat) := .branch 21 (.branch 19 (.leaf (18, 854)) (.branch 20 (.leaf (19, 862)) (.leaf (20, 858)))) (.branch 22 (.leaf (21, 806)) (.branch 23 (.leaf (22, 222)) (.leaf (23, 304))))
def am_cw_4 : Lean.RArray (Nat × Nat) := .branch 27 (.branch 25 (.leaf (24, 300)) (.branch 26 (.leaf (25, 320)) (.leaf (26, 362)))) (.branch 28 (.leaf (27, 347)) (.branch 29 (.leaf (28, 351)) (.leaf (29, 285))))
def am_cw_5 : Lean.RArray (Nat × Nat) := .branch 33 (.branch 31 (.leaf (30, 324)) (.branch 32 (.leaf (31, 308)) (.leaf (32, 312)))) (.branch 34 (.leaf (33, 185)) (.branch 35 (.leaf (34, 483)) (.leaf (35, 505))))
def am_cw_6 : Lean.RArray (Nat × Nat) := .branch 39 (.branch 37 (.leaf (36, 562)) (.branch 38 (.leaf (37, 575)) (.leaf (38, 581)))) (.branch 40 (.leaf (39, 586)) (.branch 41 (.leaf (40, 595)) (.leaf (41, 566))))
def am_cw_7 : Lean.RArray (Nat × Nat) := .branch 45 (.branch 43 (.leaf (42, 570)) (.branch 44 (.leaf (43, 510)) (.leaf (44, 496)))) (.branch 46 (.leaf (45, 500)) (.branch 47 (.leaf (46, 109)) (.leaf (47, 492))))
def am_cw_8 : Lean.RArray (Nat × Nat) := .branch 51 (.branch 49 (.leaf (48, 398)) (.branch 50 (.leaf (49, 367)) (.leaf (50, 636)))) (.branch 52 (.leaf (51, 651)) (.branch 53 (.leaf (52, 102)) (.leaf (53, 487))))
def am_cw_9 : Lean.RArray (Nat × Nat) := .branch 57 (.branch 55 (.leaf (54, 436)) (.branch 56 (.leaf (55, 386)) (.leaf (56, 989)))) (.branch 58 (.leaf (57, 450)) (.branch 59 (.leaf (58, 343)) (.leaf (59, 660))))
def am_cw_10 : Lean.RArray (Nat × Nat) := .branch 63 (.branch 61 (.leaf (60, 458)) (.branch 62 (.leaf (61, 420)) (.leaf (62, 379)))) (.branch 64 (.leaf (63, 462)) (.branch 65 (.leaf (64, 406)) (.leaf (65, 410))))
def am_cw_11 : Lean.RArray (Nat × Nat) := .branch 69 (.branch 67 (.leaf (66, 402)) (.branch 68 (.leaf (67, 424)) (.leaf (68, 394)))) (.branch 70 (.leaf (69, 375)) (.branch 71 (.leaf (70, 689)) (.leaf (71, 693))))
def am_cw_12 : Lean.RArray (Nat × Nat) := .branch 75 (.branch 73 (.leaf (72, 632)) (.branch 74 (.leaf (73, 685)) (.leaf (74, 603)))) (.branch 76 (.leaf (75, 646)) (.branch 77 (.leaf (76, 679)) (.leaf (77, 599))))
def am_cw_13 : Lean.RArray (Nat × Nat) := .branch 81 (.branch 79 (.leaf (78, 611)) (.branch 80 (.leaf (79, 912)) (.leaf (80, 810)))) (.branch 82 (.leaf (81, 818)) (.branch 83 (.leaf (82, 997)) (.leaf (83, 94))))
def am_cw_14 : Lean.RArray (Nat × Nat) := .branch 87 (.branch 85 (.leaf (84, 274)) (.branch 86 (.leaf (85, 292)) (.leaf (86, 316)))) (.branch 88 (.leaf (87, 331)) (.branch 89 (.leaf (88, 335)) (.leaf (89, 339))))
def am_cw_15 : Lean.RArray (Nat × Nat) := .branch 93 (.branch 91 (.leaf (90, 355)) (.branch 92 (.leaf (91, 428)) (.leaf (92, 432)))) (.branch 94 (.leaf (93, 441)) (.branch 95 (.leaf (94, 446)) (.leaf (95, 467))))
def am_cw_16 : Lean.RArray (Nat × Nat) := .branch 99 (.branch 97 (.leaf (96, 471)) (.branch 98 (.leaf (97, 475)) (.leaf (98, 479)))) (.branch 100 (.leaf (99, 617)) (.branch 101 (.leaf (100, 621)) (.leaf (101, 625))))
def am_cw_17 : Lean.RArray (Nat × Nat) := .branch 105 (.branch 103 (.leaf (102, 642)) (.branch 104 (.leaf (103, 656)) (.leaf (104, 666)))) (.branch 106 (.leaf (105, 697)) (.branch 107 (.leaf (106, 701)) (.leaf (107, 710))))
def am_cw_18 : Lean.RArray (Nat × Nat) := .branch 111 (.branch 109 (.leaf (108, 837)) (.branch 110 (.leaf (109, 845)) (.leaf (110, 866)))) (.branch 112 (.leaf (111, 874)) (.branch 113 (.leaf (112, 880)) (.leaf (113, 888))))
def am_cw_19 : Lean.RArray (Nat × Nat) := .branch 117 (.branch 115 (.leaf (114, 892)) (.branch 116 (.leaf (115, 904)) (.leaf (116, 908)))) (.branch 118 (.leaf (117, 917)) (.branch 119 (.leaf (118, 934)) (.leaf (119, 971))))
def am_cw_20 : Lean.RArray (Nat × Nat) := .branch 123 (.branch 121 (.leaf (120, 976)) (.branch 122 (.leaf (121, 981)) (.leaf (122, 985)))) (.branch 124 (.leaf (123, 993)) (.branch 125 (.leaf (124, 1002)) (.leaf (125, 1006))))
def am_cw_21 : Lean.RArray (Nat × Nat) := .branch 129 (.branch 127 (.leaf (126, 1010)) (.branch 128 (.leaf (127, 1014)) (.leaf (128, 281)))) (.branch 130 (.leaf (129, 1023)) (.branch 131 (.leaf (130, 1019)) (.leaf (131, 296))))
def am_cw_22 : Lean.RArray (Nat × Nat) := .branch 135 (.branch 133 (.leaf (132, 371)) (.branch 134 (.leaf (133, 674)) (.leaf (134, 705)))) (.branch 136 (.leaf (135, 896)) (.branch 137 (.leaf (136, 921)) (.leaf (137, 870))))
def am_cw_23 : Lean.RArray (Nat × Nat) := .branch 141 (.branch 139 (.leaf (138, 670)) (.branch 140 (.leaf (139, 717)) (.leaf (140, 277)))) (.branch 142 (.leaf (141, 358)) (.branch 143 (.leaf (142, 628)) (.leaf (143, 454))))
def am_cw_24 : Lean.RArray (Nat × Nat) := .branch 147 (.branch 145 (.leaf (144, 713)) (.branch 146 (.leaf (145, 607)) (.leaf (146, 884)))) (.branch 148 (.leaf (147, 1028)) (.branch 149 (.leaf (148, 1132)) (.leaf (149, 1128))))
def am_cw_25 : Lean.RArray (Nat × Nat) := .branch 153 (.branch 151 (.leaf (150, 1392)) (.branch 152 (.leaf (151, 1164)) (.leaf (152, 1306)))) (.branch 154 (.leaf (153, 1191)) (.branch 155 (.leaf (154, 1148)) (.leaf (155, 1125))))
def am_cw_26 : Lean.RArray (Nat × Nat) := .branch 159 (.branch 157 (.leaf (156, 1140)) (.branch 158 (.leaf (157, 1136)) (.leaf (158, 1144)))) (.branch 160 (.leaf (159, 1152)) (.branch 161 (.leaf (160, 1156)) (.leaf (161, 1160))))
def am_cw_27 : Lean.RArray (Nat × Nat) := .branch 165 (.branch 163 (.leaf (162, 1171)) (.branch 164 (.leaf (163, 1168)) (.leaf (164, 1195)))) (.branch 166 (.leaf (165, 1183)) (.branch 167 (.leaf (166, 1187)) (.leaf (167, 1199))))
def am_cw_28 : Lean.RArray (Nat × Nat) := .branch 171 (.branch 169 (.leaf (168, 1207)) (.branch 170 (.leaf (169, 1203)) (.leaf (170, 1211)))) (.branch 172 (.leaf (171, 1215)) (.branch 173 (.leaf (172, 1219)) (.leaf (173, 1234))))
def am_cw_29 : Lean.RArray (Nat × Nat) := .branch 177 (.branch 175 (.leaf (174, 1237)) (.branch 176 (.leaf (175, 1231)) (.leaf (176, 1246)))) (.branch 178 (.leaf (177, 1252)) (.branch 179 (.leaf (178, 1241)) (.leaf (179, 1223))))
def am_cw_30 : Lean.RArray (Nat × Nat) := .branch 183 (.branch 181 (.leaf (180, 1273)) (.branch 182 (.leaf (181, 1277)) (.leaf (182, 1263)))) (.branch 184 (.leaf (183, 1179)) (.branch 185 (.leaf (184, 1175)) (.leaf (185, 1330))))
def am_cw_31 : Lean.RArray (Nat × Nat) := .branch 189 (.branch 187 (.leaf (186, 1334)) (.branch 188 (.leaf (187, 1289)) (.leaf (188, 1293)))) (.branch 190 (.leaf (189, 1285)) (.branch 191 (.leaf (190, 1327)) (.leaf (191, 1323))))
def am_cw_32 : Lean.RArray (Nat × Nat) := .branch 195 (.branch 193 (.leaf (192, 1281)) (.branch 194 (.leaf (193, 1297)) (.leaf (194, 1302)))) (.branch 196 (.leaf (195, 1314)) (.branch 197 (.leaf (196, 1318)) (.leaf (197, 1310))))
def am_cw_33 : Lean.RArray (Nat × Nat) := .branch 201 (.branch 199 (.leaf (198, 1338)) (.branch 200 (.leaf (199, 1342)) (.leaf (200, 1357)))) (.branch 202 (.leaf (201, 1354)) (.branch 203 (.leaf (202, 1365)) (.leaf (203, 1361))))
def am_cw_34 : Lean.RArray (Nat × Nat) := .branch 207 (.branch 205 (.leaf (204, 1369)) (.branch 206 (.leaf (205, 1350)) (.leaf (206, 1346)))) (.branch 208 (.leaf (207, 1374)) (.branch 209 (.leaf (208, 1385)) (.leaf (209, 1378))))
def am_cw_35 : Lean.RArray (Nat × Nat) := .branch 213 (.branch 211 (.leaf (210, 1382)) (.branch 212 (.leaf (211, 1389)) (.leaf (212, 1397)))) (.branch 214 (.leaf (213, 1401)) (.branch 215 (.leaf (214, 1406)) (.leaf (215, 1410))))
def am_cw_36 : Lean.RArray (Nat × Nat) := .branch 219 (.branch 217 (.leaf (216, 1415)) (.branch 218 (.leaf (217, 1419)) (.leaf (218, 1423)))) (.branch 220 (.leaf (219, 1432)) (.branch 221 (.leaf (220, 1428)) (.leaf (221, 1259))))
def am_cw_37 : Lean.RArray (Nat × Nat) := .branch 225 (.branch 223 (.leaf (222, 1436)) (.branch 224 (.leaf (223, 1440)) (.leaf (224, 1444)))) (.branch 226 (.leaf (225, 1448)) (.branch 227 (.leaf (226, 1456)) (.leaf (227, 1452))))
def am_cw_38 : Lean.RArray (Nat × Nat) := .branch 231 (.branch 229 (.leaf (228, 1461)) (.branch 230 (.leaf (229, 1227)) (.leaf (230, 1269)))) (.branch 232 (.leaf (231, 1465)) (.branch 233 (.leaf (232, 1469)) (.leaf (233, 1473))))
def am_cw_39 : Lean.RArray (Nat × Nat) := .branch 237 (.branch 235 (.leaf (234, 413)) (.branch 236 (.leaf (235, 899)) (.leaf (236, 390)))) (.branch 238 (.leaf (237, 382)) (.branch 239 (.leaf (238, 288)) (.leaf (239, 803))))
def am_cw : Lean.RArray (Nat × Nat) := .branch 120 (.branch 60 (.branch 30 (.branch 12 (.branch 6 (am_cw_0) (am_cw_1)) (.branch 18 (am_cw_2) (.branch 24 (am_cw_3) (am_cw_4)))) (.branch 42 (.branch 36 (am_cw_5) (am_cw_6)) (.branch 48 (am_cw_7) (.branch 54 (am_cw_8) (am_cw_9))))) (.branch 90 (.branch 72 (.branch 66 (am_cw_10) (am_cw_11)) (.branch 78 (am_cw_12) (.branch 84 (am_cw_13) (am_cw_14)))) (.branch 102 (.branch 96 (am_cw_15) (am_cw_16)) (.branch 108 (am_cw_17) (.branch 114 (am_cw_18) (am_cw_19)))))) (.branch 180 (.branch 150 (.branch 132 (.branch 126 (am_cw_20) (am_cw_21)) (.branch 138 (am_cw_22) (.branch 144 (am_cw_23) (am_cw_24)))) (.branch 162 (.branch 156 (am_cw_25) (am_cw_26)) (.branch 168 (am_cw_27) (.branch 174 (am_cw_28) (am_cw_29))))) (.branch 210 (.branch 192 (.branch 186 (am_cw_30) (am_cw_31)) (.branch 198 (am_cw_32) (.branch 204 (am_cw_33) (am_cw_34)))) (.branch 222 (.branch 216 (am_cw_35) (am_cw_36)) (.branch 228 (am_cw_37) (.branch 234 (am_cw_38) (am_cw_39))))))
def am_okm (q : Nat × Nat) : Bool := decide (lw_tbl[q.2]? = some (.code (am_nm.getImpl q.1) (am_by.getImpl q.1) (am_mt.getImpl q.1).2.1 (match (am_mt.getImpl q.1).2.2.1 with | 0 => none | 1 => some .int | 2 => some .long | 3 => some (.object "FasterToBeLater$Planner") | _ => some .boolean))) && (plainFor (am_nm.getImpl q.1) && (decide ((am_nm.getImpl q.1).cls ≠ "java/lang/invoke/MethodHandle" ∧ (am_nm.getImpl q.1).cls ≠ "java/lang/invoke/VarHandle") && (decide ((am_nm.getImpl q.1).cls = am_cn (am_mt.getImpl q.1).1) && Nat.ble (am_mt.getImpl q.1).2.1 16)))
theorem am_okm_0 : am_allb am_okm am_cw_0 = true := by decide +kernel
theorem am_okm_1 : am_allb am_okm am_cw_1 = true := by decide +kernel
theorem am_okm_2 : am_allb am_okm am_cw_2 = true := by decide +kernel
theorem am_okm_3 : am_allb am_okm am_cw_3 = true := by decide +kernel
theorem am_okm_4 : am_allb am_okm am_cw_4 = true := by decide +kernel
theorem am_okm_5 : am_allb am_okm am_cw_5 = true := by decide +kernel
theorem am_okm_6 : am_allb am_okm am_cw_6 = true := by decide +kernel
theorem am_okm_7 : am_allb am_okm am_cw_7 = true := by decide +kernel
theorem am_okm_8 : am_allb am_okm am_cw_8 = true := by decide +kernel
theorem am_okm_9 : am_allb am_okm am_cw_9 = true := by decide +kernel
theorem am_okm_10 : am_allb am_okm am_cw_10 = true := by decide +kernel
theorem am_okm_11 : am_allb am_okm am_cw_11 = true := by decide +kernel
theorem am_okm_12 : am_allb am_okm am_cw_12 = true := by decide +kernel
theorem am_okm_13 : am_allb am_okm am_cw_13 = true := by decide +kernel
theorem am_okm_14 : am_allb am_okm am_cw_14 = true := by decide +kernel
theorem am_okm_15 : am_allb am_okm am_cw_15 = true := by decide +kernel
theorem am_okm_16 : am_allb am_okm am_cw_16 = true := by decide +kernel
theorem am_okm_17 : am_allb am_okm am_cw_17 = true := by decide +kernel
theorem am_okm_18 : am_allb am_okm am_cw_18 = true := by decide +kernel
theorem am_okm_19 : am_allb am_okm am_cw_19 = true := by decide +kernel
theorem am_okm_20 : am_allb am_okm am_cw_20 = true := by decide +kernel
theorem am_okm_21 : am_allb am_okm am_cw_21 = true := by decide +kernel
theorem am_okm_22 : am_allb am_okm am_cw_22 = true := by decide +kernel
theorem am_okm_23 : am_allb am_okm am_cw_23 = true := by decide +kernel
theorem am_okm_24 : am_allb am_okm am_cw_24 = true := by decide +kernel
theorem am_okm_25 : am_allb am_okm am_cw_25 = true := by decide +kernel
theorem am_okm_26 : am_allb am_okm am_cw_26 = true := by decide +kernel
theorem am_okm_27 : am_allb am_okm am_cw_27 = true := by decide +kernel
theorem am_okm_28 : am_allb am_okm am_cw_28 = true := by decide +kernel
theorem am_okm_29 : am_allb am_okm am_cw_29 = true := by decide +kernel
theorem am_okm_30 : am_allb am_okm am_cw_30 = true := by decide +kernel
theorem am_okm_31 : am_allb am_okm am_cw_31 = true := by decide +kernel
theorem am_okm_32 : am_allb am_okm am_cw_32 = true := by decide +kernel
theorem am_okm_33 : am_allb am_okm am_cw_33 = true := by decide +kernel
theorem am_okm_34 : am_allb am_okm am_cw_34 = true := by decide +kernel
theorem am_okm_35 : am_allb am_okm am_cw_35 = true := by decide +kernel
theorem am_okm_36 : am_allb am_okm am_cw_36 = true := by decide +kernel
theorem am_okm_37 : am_allb am_okm am_cw_37 = true := by decide +kernel
theorem am_okm_38 : am_allb am_okm am_cw_38 = true := by decide +kernel
theorem am_okm_39 : am_allb am_okm am_cw_39 = true := by decide +kernel
theorem am_allb_b {α : Type} {f : α → Bool} {p : Nat} {l r : Lean.RArray α} (h1 : am_allb f l = true) (h2 : am_allb f r = true) : am_allb f (.branch p l r) = true := Bool.and_eq_true_iff.mpr ⟨h1, h2⟩
theorem am_okm_all : am_allb am_okm am_cw = true := (am_allb_b (am_allb_b (am_allb_b (am_allb_b (am_allb_b am_okm_0 am_okm_1) (am_allb_b am_okm_2 (am_allb_b am_okm_3 am_okm_4))) (am_allb_b (am_allb_b am_okm_5 am_okm_6) (am_allb_b am_okm_7 (am_allb_b am_okm_8 am_okm_9)))) (am_allb_b (am_allb_b (am_allb_b am_okm_10 am_okm_11) (am_allb_b am_okm_12 (am_allb_b am_okm_13 am_okm_14))) (am_allb_b (am_allb_b am_okm_15 am_okm_16) (am_allb_b am_okm_17 (am_allb_b am_okm_18 am_okm_19))))) (am_allb_b (am_allb_b (am_allb_b (am_allb_b am_okm_20 am_okm_21) (am_allb_b am_okm_22 (am_allb_b am_okm_23 am_okm_24))) (am_allb_b (am_allb_b am_okm_25 am_okm_26) (am_allb_b am_okm_27 (am_allb_b am_okm_28 am_okm_29)))) (am_allb_b (am_allb_b (am_allb_b am_okm_30 am_okm_31) (am_allb_b am_okm_32 (am_allb_b am_okm_33 am_okm_34))) (am_allb_b (am_allb_b am_okm_35 am_okm_36) (am_allb_b am_okm_37 (am_allb_b am_okm_38 am_okm_39))))))
