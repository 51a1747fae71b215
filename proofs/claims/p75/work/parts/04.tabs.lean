/-! words that go with every call -/
def ri_okw (w : Cond) : Bool := goodWord w || (match w with | .methodLinkNest _ _ _ _ => true | .arrayOver (.object _) => true | _ => false)
def tb : List Cond := lw_tbl.filter ri_okw
theorem tb_mem {w : Cond} (i : Nat) (h : lw_tbl[i]? = some w) (g : ri_okw w = true) : w ∈ tb := List.mem_filter.mpr ⟨List.mem_of_getElem? h, g⟩
def ri_own (o : Nat) : String := match vwCl[o]? with | some q => q.1 | none => RL
def ri_ty (c : Nat) : Nat → FieldType := match c with
  | 0 => tyX0
  | 1 => tyX1
  | 2 => tyX2
  | 3 => tyX3
  | 4 => tyX4
  | 5 => tyX5
  | 6 => tyX6
  | 7 => tyX7
  | 8 => tyX8
  | _ => tyX9
def tb_f0 : List (Nat × Nat × Nat × Nat) := [(45, 3, 0, 181), (60, 3, 1, 185), (56, 3, 2, 189), (52, 3, 4, 196), (69, 3, 5, 205), (64, 3, 8, 215), (65, 3, 9, 218), (66, 3, 11, 223), (72, 3, 12, 226), (75, 3, 13, 230), (78, 3, 14, 233), (63, 0, 0, 307), (103, 0, 1, 312), (106, 0, 2, 315), (9, 0, 3, 316), (15, 0, 4, 318), (18, 0, 5, 321), (51, 0, 6, 323), (55, 0, 7, 324), (59, 0, 8, 325), (21, 0, 9, 326), (24, 0, 10, 327), (27, 0, 11, 328), (30, 0, 12, 329), (33, 0, 13, 330), (36, 0, 14, 331), (39, 0, 15, 332), (42, 0, 16, 333)]
def tb_f1 : List (Nat × Nat × Nat × Nat) := [(28, 7, 2, 380), (15, 1, 0, 451), (19, 1, 1, 453), (22, 1, 2, 455), (25, 1, 3, 457), (37, 1, 4, 459), (40, 1, 5, 461), (9, 1, 6, 463)]
def tb_f2 : List (Nat × Nat × Nat × Nat) := [(9, 2, 0, 145), (19, 2, 1, 147), (27, 2, 2, 148), (15, 2, 3, 150), (30, 2, 4, 152), (36, 2, 5, 153), (117, 2, 6, 154), (114, 2, 7, 155), (75, 3, 0, 182), (79, 3, 1, 186), (83, 3, 2, 190), (87, 3, 3, 193), (89, 3, 4, 200), (102, 3, 5, 207), (43, 3, 6, 210)]
def tb_f3 : List (Nat × Nat × Nat × Nat) := [(42, 3, 0, 180), (46, 3, 1, 184), (49, 3, 2, 188), (52, 3, 3, 192), (55, 3, 4, 197), (58, 3, 5, 203), (61, 3, 6, 209), (64, 3, 7, 212), (9, 3, 8, 214), (15, 3, 9, 217), (18, 3, 10, 220), (21, 3, 11, 222), (24, 3, 12, 225), (27, 3, 13, 229), (30, 3, 14, 232), (33, 3, 15, 235), (36, 3, 16, 236), (39, 3, 17, 237)]
def tb_f4 : List (Nat × Nat × Nat × Nat) := [(25, 3, 4, 195), (37, 3, 5, 204), (43, 0, 1, 310), (46, 4, 0, 423), (49, 4, 1, 425), (9, 4, 2, 427), (15, 4, 3, 429), (18, 4, 4, 430), (21, 4, 5, 431)]
def tb_f5 : List (Nat × Nat × Nat × Nat) := [(39, 3, 4, 198), (21, 3, 5, 202), (33, 0, 1, 309), (42, 0, 4, 319), (9, 5, 0, 404), (15, 5, 1, 406), (18, 5, 2, 408)]
def tb_f6 : List (Nat × Nat × Nat × Nat) := [(9, 6, 0, 284), (15, 6, 1, 287), (19, 6, 2, 289)]
def tb_f7 : List (Nat × Nat × Nat × Nat) := [(55, 3, 4, 199), (66, 3, 5, 206), (73, 3, 12, 227), (99, 6, 0, 285), (94, 6, 2, 290), (46, 0, 1, 311), (49, 0, 2, 314), (60, 0, 4, 320), (63, 0, 5, 322), (9, 7, 0, 375), (15, 7, 1, 377), (18, 7, 2, 379), (21, 7, 3, 382), (24, 7, 4, 383), (27, 7, 5, 384)]
def tb_f8 : List (Nat × Nat × Nat × Nat) := [(79, 2, 1, 146), (91, 2, 2, 149), (103, 2, 3, 151), (187, 3, 0, 183), (381, 3, 1, 187), (382, 3, 2, 191), (385, 3, 3, 194), (156, 3, 4, 201), (215, 3, 5, 208), (100, 3, 6, 211), (359, 3, 7, 213), (110, 3, 8, 216), (114, 3, 9, 219), (117, 3, 10, 221), (362, 3, 11, 224), (123, 3, 12, 228), (126, 3, 13, 231), (129, 3, 14, 234), (403, 6, 0, 286), (399, 6, 1, 288), (402, 6, 2, 291), (324, 0, 0, 308), (438, 0, 1, 313), (265, 0, 3, 317), (146, 7, 0, 376), (149, 7, 1, 378), (201, 7, 2, 381), (242, 5, 0, 405), (352, 5, 1, 407), (356, 5, 2, 409), (229, 4, 0, 424), (235, 4, 1, 426), (232, 4, 2, 428), (300, 1, 0, 452), (303, 1, 1, 454), (306, 1, 2, 456), (318, 1, 3, 458), (312, 1, 4, 460), (315, 1, 5, 462), (10, 8, 0, 479), (19, 8, 1, 480), (23, 8, 2, 481), (26, 8, 3, 482), (30, 8, 4, 483), (36, 8, 5, 484), (44, 8, 6, 485), (51, 8, 7, 486), (55, 8, 8, 487), (61, 8, 9, 488), (68, 8, 10, 489), (75, 8, 11, 490), (418, 8, 12, 491), (422, 8, 13, 492), (425, 8, 14, 493)]
def tb_f9 : List (Nat × Nat × Nat × Nat) := [(95, 9, 0, 1306), (7, 9, 1, 1307), (13, 9, 2, 1308), (16, 9, 3, 1309), (20, 9, 4, 1310), (23, 9, 5, 1311), (112, 9, 6, 1312), (119, 9, 7, 1313), (136, 9, 8, 1314), (126, 9, 9, 1315), (129, 9, 10, 1316), (132, 9, 11, 1317), (147, 9, 12, 1318), (150, 9, 13, 1319), (174, 9, 14, 1320), (27, 9, 15, 1321), (31, 9, 16, 1322), (34, 9, 17, 1323), (37, 9, 18, 1324), (40, 9, 19, 1325), (43, 9, 20, 1326), (46, 9, 21, 1327), (268, 9, 22, 1328), (271, 9, 23, 1329), (50, 9, 24, 1330), (53, 9, 25, 1331), (56, 9, 26, 1332), (59, 9, 27, 1333), (62, 9, 28, 1334), (65, 9, 29, 1335), (68, 9, 30, 1336), (71, 9, 31, 1337), (74, 9, 32, 1338), (77, 9, 33, 1339), (80, 9, 34, 1340), (83, 9, 35, 1341), (334, 9, 36, 1342), (346, 9, 37, 1343), (349, 9, 38, 1344), (86, 9, 39, 1345), (89, 9, 40, 1346), (386, 9, 41, 1347), (389, 9, 42, 1348), (413, 9, 43, 1349), (416, 9, 44, 1350), (419, 9, 45, 1351), (422, 9, 46, 1352), (428, 9, 47, 1353), (431, 9, 48, 1354), (92, 9, 49, 1355)]
def tb_f10 : List (Nat × Nat × Nat × Nat) := []
def tb_f (o : Nat) : List (Nat × Nat × Nat × Nat) := match o with
  | 0 => tb_f0
  | 1 => tb_f1
  | 2 => tb_f2
  | 3 => tb_f3
  | 4 => tb_f4
  | 5 => tb_f5
  | 6 => tb_f6
  | 7 => tb_f7
  | 8 => tb_f8
  | 9 => tb_f9
  | _ => tb_f10
def ri_fok (o : Nat) (x : Nat × Nat × Nat × Nat) : Bool := match vwCl[x.2.1]? with | none => false | some q => decide (x.2.2.1 < q.2.2) && decide (lw_tbl[x.2.2.2]? = some (.fieldLink (ri_own o) x.1 (q.2.1 x.2.2.1).1 (q.2.1 x.2.2.1).2.1 (q.2.1 x.2.2.1).2.2.1))
theorem tb_f0_ok : tb_f0.all (ri_fok 0) = true := by decide +kernel
theorem tb_f1_ok : tb_f1.all (ri_fok 1) = true := by decide +kernel
theorem tb_f2_ok : tb_f2.all (ri_fok 2) = true := by decide +kernel
theorem tb_f3_ok : tb_f3.all (ri_fok 3) = true := by decide +kernel
theorem tb_f4_ok : tb_f4.all (ri_fok 4) = true := by decide +kernel
theorem tb_f5_ok : tb_f5.all (ri_fok 5) = true := by decide +kernel
theorem tb_f6_ok : tb_f6.all (ri_fok 6) = true := by decide +kernel
theorem tb_f7_ok : tb_f7.all (ri_fok 7) = true := by decide +kernel
theorem tb_f8_ok : tb_f8.all (ri_fok 8) = true := by decide +kernel
theorem tb_f9_ok : tb_f9.all (ri_fok 9) = true := by decide +kernel
theorem tb_f10_ok : tb_f10.all (ri_fok 10) = true := by decide +kernel
theorem tb_u0 : u_ws RX0 TX0 17 = ([334, 336, 338, 340, 342, 344, 346, 348, 350, 352, 354, 356, 358, 360, 362, 364, 366] : List Nat).filterMap (fun i => lw_tbl[i]?) ∧ (u_ws RX0 TX0 17).all goodWord = true := by decide +kernel
theorem tb_u1 : u_ws RX1 TX1 7 = ([464, 466, 468, 470, 472, 474, 476] : List Nat).filterMap (fun i => lw_tbl[i]?) ∧ (u_ws RX1 TX1 7).all goodWord = true := by decide +kernel
theorem tb_u2 : u_ws RX2 TX2 8 = ([156, 158, 160, 162, 164, 166, 168, 170] : List Nat).filterMap (fun i => lw_tbl[i]?) ∧ (u_ws RX2 TX2 8).all goodWord = true := by decide +kernel
theorem tb_u3 : u_ws RX3 TX3 18 = ([238, 240, 242, 244, 246, 248, 250, 252, 254, 256, 258, 260, 262, 264, 266, 268, 270, 272] : List Nat).filterMap (fun i => lw_tbl[i]?) ∧ (u_ws RX3 TX3 18).all goodWord = true := by decide +kernel
theorem tb_u4 : u_ws RX4 TX4 6 = ([432, 434, 436, 438, 440, 442] : List Nat).filterMap (fun i => lw_tbl[i]?) ∧ (u_ws RX4 TX4 6).all goodWord = true := by decide +kernel
theorem tb_u5 : u_ws RX5 TX5 3 = ([410, 412, 414] : List Nat).filterMap (fun i => lw_tbl[i]?) ∧ (u_ws RX5 TX5 3).all goodWord = true := by decide +kernel
theorem tb_u6 : u_ws RX6 TX6 3 = ([292, 294, 296] : List Nat).filterMap (fun i => lw_tbl[i]?) ∧ (u_ws RX6 TX6 3).all goodWord = true := by decide +kernel
theorem tb_u7 : u_ws RX7 TX7 6 = ([385, 387, 389, 391, 393, 395] : List Nat).filterMap (fun i => lw_tbl[i]?) ∧ (u_ws RX7 TX7 6).all goodWord = true := by decide +kernel
theorem tb_u8 : u_ws RX8 TX8 15 = ([494, 496, 498, 500, 502, 504, 506, 508, 510, 512, 514, 516, 518, 520, 522] : List Nat).filterMap (fun i => lw_tbl[i]?) ∧ (u_ws RX8 TX8 15).all goodWord = true := by decide +kernel
theorem tb_u9 : u_ws RX9 TX9 50 = ([1356, 1358, 1360, 1362, 1364, 1366, 1368, 1370, 1372, 1374, 1376, 1378, 1380, 1382, 1384, 1386, 1388, 1390, 1392, 1394, 1396, 1398, 1400, 1402, 1404, 1406, 1408, 1410, 1412, 1414, 1416, 1418, 1420, 1422, 1424, 1426, 1428, 1430, 1432, 1434, 1436, 1438, 1440, 1442, 1444, 1446, 1448, 1450, 1452, 1454] : List Nat).filterMap (fun i => lw_tbl[i]?) ∧ (u_ws RX9 TX9 50).all goodWord = true := by decide +kernel
def tb_c0 : List (Nat × Nat × Nat × Nat × Nat) := []
def tb_c1 : List (Nat × Nat × Nat × Nat × Nat) := []
def tb_c2 : List (Nat × Nat × Nat × Nat × Nat) := []
def tb_c3 : List (Nat × Nat × Nat × Nat × Nat) := []
def tb_c4 : List (Nat × Nat × Nat × Nat × Nat) := []
def tb_c5 : List (Nat × Nat × Nat × Nat × Nat) := []
def tb_c6 : List (Nat × Nat × Nat × Nat × Nat) := []
def tb_c7 : List (Nat × Nat × Nat × Nat × Nat) := []
def tb_c8 : List (Nat × Nat × Nat × Nat × Nat) := [(7, 2, 139, 140, 114), (16, 3, 174, 175, 115), (34, 6, 277, 279, 116), (41, 0, 301, 302, 117), (48, 7, 369, 370, 118), (58, 5, 398, 399, 119), (65, 4, 417, 418, 120), (72, 1, 445, 446, 121)]
def tb_c9 : List (Nat × Nat × Nat × Nat × Nat) := []
def tb_c10 : List (Nat × Nat × Nat × Nat × Nat) := [(7, 8, 131, 132, 113), (10, 9, 1300, 1301, 122)]
def tb_c (o : Nat) : List (Nat × Nat × Nat × Nat × Nat) := match o with
  | 0 => tb_c0
  | 1 => tb_c1
  | 2 => tb_c2
  | 3 => tb_c3
  | 4 => tb_c4
  | 5 => tb_c5
  | 6 => tb_c6
  | 7 => tb_c7
  | 8 => tb_c8
  | 9 => tb_c9
  | _ => tb_c10
def ri_cok (o : Nat) (x : Nat × Nat × Nat × Nat × Nat) : Bool := match vwCl[x.2.1]? with | none => false | some q => decide (lw_tbl[x.2.2.1]? = some (.classLink (ri_own o) x.1 q.1)) && (decide (lw_tbl[x.2.2.2.1]? = some (.instantiable q.1 q.2.2)) && decide (lw_tbl[x.2.2.2.2]? = some (.initialized q.1)))
theorem tb_c0_ok : tb_c0.all (ri_cok 0) = true := by decide +kernel
theorem tb_c1_ok : tb_c1.all (ri_cok 1) = true := by decide +kernel
theorem tb_c2_ok : tb_c2.all (ri_cok 2) = true := by decide +kernel
theorem tb_c3_ok : tb_c3.all (ri_cok 3) = true := by decide +kernel
theorem tb_c4_ok : tb_c4.all (ri_cok 4) = true := by decide +kernel
theorem tb_c5_ok : tb_c5.all (ri_cok 5) = true := by decide +kernel
theorem tb_c6_ok : tb_c6.all (ri_cok 6) = true := by decide +kernel
theorem tb_c7_ok : tb_c7.all (ri_cok 7) = true := by decide +kernel
theorem tb_c8_ok : tb_c8.all (ri_cok 8) = true := by decide +kernel
theorem tb_c9_ok : tb_c9.all (ri_cok 9) = true := by decide +kernel
theorem tb_c10_ok : tb_c10.all (ri_cok 10) = true := by decide +kernel
def tb_k0 : List (Nat × Int × Nat) := []
def tb_k1 : List (Nat × Int × Nat) := []
def tb_k2 : List (Nat × Int × Nat) := []
def tb_k3 : List (Nat × Int × Nat) := []
def tb_k4 : List (Nat × Int × Nat) := []
def tb_k5 : List (Nat × Int × Nat) := []
def tb_k6 : List (Nat × Int × Nat) := []
def tb_k7 : List (Nat × Int × Nat) := []
def tb_k8 : List (Nat × Int × Nat) := [(440, 4294967295, 1087), (448, 25, 1111), (456, 1103515245, 1251), (458, 12345, 1252), (460, 2147483648, 1253), (462, 65536, 1254), (464, 10, 1255)]
def tb_k9 : List (Nat × Int × Nat) := [(98, 3, 1464), (139, (-1), 1519), (141, 27, 1520), (143, 96, 1521), (224, 365260, 1528), (226, 235981828, 1545), (228, 8798, 1554), (230, 10197082, 1555), (232, 298288, 1556), (200, 2232, 1561), (181, 131638, 1574), (186, 555, 1575), (188, 247162, 1576), (209, 9746154, 1577), (194, 47, 1582), (196, 375400, 1583), (198, 168755, 1584), (311, 2, 1612), (257, 24, 1636), (392, 4294967295, 1931), (466, 2000000000, 2039), (456, 1103515245, 2044), (458, 12345, 2045), (460, 2147483648, 2046), (462, 65536, 2047), (464, 10, 2048), (474, 20, 2053), (480, 99, 2066), (482, 6, 2083)]
def tb_k10 : List (Nat × Int × Nat) := [(307, 4294967295, 2092)]
def tb_k (o : Nat) : List (Nat × Int × Nat) := match o with
  | 0 => tb_k0
  | 1 => tb_k1
  | 2 => tb_k2
  | 3 => tb_k3
  | 4 => tb_k4
  | 5 => tb_k5
  | 6 => tb_k6
  | 7 => tb_k7
  | 8 => tb_k8
  | 9 => tb_k9
  | _ => tb_k10
def ri_kok (o : Nat) (x : Nat × Int × Nat) : Bool := decide (lw_tbl[x.2.2]? = some (.constantLong (ri_own o) x.1 (Int64.ofInt x.2.1))) && decide ((Int64.ofInt x.2.1).toInt = x.2.1)
theorem tb_k0_ok : tb_k0.all (ri_kok 0) = true := by decide +kernel
theorem tb_k1_ok : tb_k1.all (ri_kok 1) = true := by decide +kernel
theorem tb_k2_ok : tb_k2.all (ri_kok 2) = true := by decide +kernel
theorem tb_k3_ok : tb_k3.all (ri_kok 3) = true := by decide +kernel
theorem tb_k4_ok : tb_k4.all (ri_kok 4) = true := by decide +kernel
theorem tb_k5_ok : tb_k5.all (ri_kok 5) = true := by decide +kernel
theorem tb_k6_ok : tb_k6.all (ri_kok 6) = true := by decide +kernel
theorem tb_k7_ok : tb_k7.all (ri_kok 7) = true := by decide +kernel
theorem tb_k8_ok : tb_k8.all (ri_kok 8) = true := by decide +kernel
theorem tb_k9_ok : tb_k9.all (ri_kok 9) = true := by decide +kernel
theorem tb_k10_ok : tb_k10.all (ri_kok 10) = true := by decide +kernel
def tb_i0 : List (Nat × Int × Nat) := []
def tb_i1 : List (Nat × Int × Nat) := []
def tb_i2 : List (Nat × Int × Nat) := []
def tb_i3 : List (Nat × Int × Nat) := []
def tb_i4 : List (Nat × Int × Nat) := []
def tb_i5 : List (Nat × Int × Nat) := []
def tb_i6 : List (Nat × Int × Nat) := []
def tb_i7 : List (Nat × Int × Nat) := []
def tb_i8 : List (Nat × Int × Nat) := [(417, 2000000000, 1246)]
def tb_i9 : List (Nat × Int × Nat) := [(145, 100000, 1522), (146, 1000000, 1523)]
def tb_i10 : List (Nat × Int × Nat) := []
def tb_i (o : Nat) : List (Nat × Int × Nat) := match o with
  | 0 => tb_i0
  | 1 => tb_i1
  | 2 => tb_i2
  | 3 => tb_i3
  | 4 => tb_i4
  | 5 => tb_i5
  | 6 => tb_i6
  | 7 => tb_i7
  | 8 => tb_i8
  | 9 => tb_i9
  | _ => tb_i10
def ri_iok (o : Nat) (x : Nat × Int × Nat) : Bool := decide (lw_tbl[x.2.2]? = some (.constant (ri_own o) x.1 (Int32.ofInt x.2.1))) && decide ((Int32.ofInt x.2.1).toInt = x.2.1)
theorem tb_i0_ok : tb_i0.all (ri_iok 0) = true := by decide +kernel
theorem tb_i1_ok : tb_i1.all (ri_iok 1) = true := by decide +kernel
theorem tb_i2_ok : tb_i2.all (ri_iok 2) = true := by decide +kernel
theorem tb_i3_ok : tb_i3.all (ri_iok 3) = true := by decide +kernel
theorem tb_i4_ok : tb_i4.all (ri_iok 4) = true := by decide +kernel
theorem tb_i5_ok : tb_i5.all (ri_iok 5) = true := by decide +kernel
theorem tb_i6_ok : tb_i6.all (ri_iok 6) = true := by decide +kernel
theorem tb_i7_ok : tb_i7.all (ri_iok 7) = true := by decide +kernel
theorem tb_i8_ok : tb_i8.all (ri_iok 8) = true := by decide +kernel
theorem tb_i9_ok : tb_i9.all (ri_iok 9) = true := by decide +kernel
theorem tb_i10_ok : tb_i10.all (ri_iok 10) = true := by decide +kernel
theorem tb_ao : lw_tbl[276]? = some (.arrayOver (.object RX3)) ∧ lw_tbl[278]? = some (.arrayOver (.object RX6)) := by decide +kernel
theorem tb_ac : lw_tbl[173]? = some (.arrayClass .byte) ∧ lw_tbl[275]? = some (.arrayClass .int) ∧ lw_tbl[299]? = some (.arrayClass .boolean) ∧ lw_tbl[300]? = some (.arrayClass .long) := by decide +kernel
