/-! the tables against the words and the bytes: written by wip/whole/gen_links.py -/
def oN (own : Nat) : String := (["IceBridge$Carriage", "IceBridge$Deeds", "IceBridge$Fjord", "IceBridge$Ice", "IceBridge$Law", "IceBridge$Reader", "IceBridge$Tape", "IceBridge$Yard", "IceBridge", "IceBridgeModel", "IceBridgeLaw", "java/lang/Math", "java/lang/Integer", "java/util/Arrays", "java/lang/String", "java/lang/StringLatin1", "java/lang/Enum", "java/lang/Object"] : List String).getD own ""
def fTab : List (String × List (String × String × Bool)) := [("IceBridge$Carriage", [("wears", "[I", true), ("worths", "[I", true), ("reached", "[Z", true), ("leading", "[Z", true), ("order", "[I", true), ("ranks", "[I", true), ("length", "I", false), ("worth", "I", false), ("bits", "I", false)]),
  ("IceBridge$Deeds", [("doers", "[I", true), ("rows", "[I", true), ("before", "[I", true), ("next", "I", false), ("many", "I", false)]),
  ("IceBridge$Fjord", [("columns", "I", true), ("rows", "I", true), ("ground", "[I", true), ("current", "[I", true), ("pourerSide", "[I", true), ("pourerKind", "[I", true), ("pourerPails", "[I", true), ("loadKind", "[I", true), ("loadNeeds", "[I", true), ("loadWorth", "[I", true), ("facts", "[I", true), ("stack", "[I", true), ("pourers", "I", false), ("loads", "I", false), ("mild", "I", false), ("frost", "LIceBridge$Law;", false), ("melt", "LIceBridge$Law;", false), ("sound", "LIceBridge$Law;", false), ("first", "LIceBridge$Law;", false)]),
  ("IceBridge$Ice", [("thick", "[I", true), ("stumps", "[I", true), ("left", "[I", true), ("shares", "[I", true), ("told", "LIceBridge$Fjord;", false), ("gone", "I", false), ("hour", "I", false), ("night", "I", false), ("frozen", "I", false), ("melted", "I", false), ("worn", "I", false)]),
  ("IceBridge$Law", [("code", "[I", true)]),
  ("IceBridge$Reader", [("tape", "LIceBridge$Tape;", true), ("code", "[I", true), ("names", "[J", true), ("told", "LIceBridge$Fjord;", false), ("size", "I", false), ("named", "I", false), ("toldOnce", "I", false), ("facts", "I", false), ("fault", "I", false)]),
  ("IceBridge$Tape", [("signs", "[C", true), ("length", "I", false), ("next", "I", false), ("sort", "I", false), ("place", "I", false), ("number", "I", false), ("code", "J", false), ("word", "LIceBridge$Word;", false)]),
  ("IceBridge$Yard", [("thick", "[I", true), ("grips", "[I", true), ("told", "LIceBridge$Fjord;", false)]),
  ("IceBridge", [("tape", "LIceBridge$Tape;", true), ("reader", "LIceBridge$Reader;", true), ("ice", "LIceBridge$Ice;", true), ("deeds", "LIceBridge$Deeds;", true), ("yard", "LIceBridge$Yard;", true), ("carriage", "LIceBridge$Carriage;", true), ("marks", "[LIceBridge$Ice;", true)]),
  ("IceBridgeModel", [("thrown", "I", false), ("taped", "I", false), ("tape", "[I", true), ("size", "I", false), ("place", "I", false), ("begin", "I", false), ("token", "I", false), ("word", "J", false), ("told", "I", false), ("wrong", "I", false), ("fjord", "[I", true), ("cellKind", "[I", true), ("current", "[I", true), ("names", "[J", true), ("named", "I", false), ("side", "[I", true), ("pourerKind", "[I", true), ("pails", "[I", true), ("loadKind", "[I", true), ("heavy", "[I", true), ("worth", "[I", true), ("lineFrom", "[I", true), ("lineTo", "[I", true), ("codes", "[I", true), ("code", "I", false), ("isMildTold", "Z", false), ("lawLine", "I", false), ("opened", "[I", true), ("compared", "[Z", true), ("kept", "[I", true), ("keptBy", "[I", true), ("ahead", "[I", true), ("against", "[I", true), ("sum", "[I", true), ("sumBy", "[I", true), ("term", "[I", true), ("termBy", "[I", true), ("byNot", "[I", true), ("valueOf", "[I", true), ("given", "I", false), ("s", "[I", true), ("aside", "[I", true), ("marked", "[I", true), ("undone", "[I", true), ("done", "I", false), ("ice", "[I", true), ("line", "[I", true), ("bestLine", "[I", true), ("bestWorth", "I", false), ("bestMany", "I", false), ("grips", "[I", true), ("builtTo", "I", false), ("queued", "I", false), ("g", "J", false), ("isLaid", "[Z", true)])]
def RC (c : Nat) : String := (fTab.getD c ("", [])).1
def NC (c : Nat) : Nat := (fTab.getD c ("", [])).2.length
def TC (c : Nat) : u_T := fun k => (RC c, (fTab.getD c ("", [])).2.getD k ("", "", false))
def tyC (c k : Nat) : FieldType := (parseFieldDescriptor (TC c k).2.2.1).getD .int
def clsL : List vw_C := (List.range 10).map (fun c => (RC c, TC c, NC c))
def lay_p_t : List (Nat × List (Nat × Nat)) := [(0, [(0, 441), (1, 443), (2, 445), (3, 447), (4, 449), (5, 451), (6, 453), (7, 455), (8, 457)]),
  (1, [(0, 398), (1, 400), (2, 402), (3, 404), (4, 406)]),
  (2, [(0, 288), (1, 290), (2, 292), (3, 294), (4, 296), (5, 298), (6, 300), (7, 302), (8, 304), (9, 306), (10, 308), (11, 310), (12, 312), (13, 314), (14, 316), (15, 318), (16, 320), (17, 322), (18, 324)]),
  (3, [(0, 363), (1, 365), (2, 367), (3, 369), (4, 371), (5, 373), (6, 375), (7, 377), (8, 379), (9, 381), (10, 383)]),
  (4, [(0, 234)]),
  (5, [(0, 198), (1, 200), (2, 202), (3, 204), (4, 206), (5, 208), (6, 210), (7, 212), (8, 214)]),
  (6, [(0, 164), (1, 166), (2, 168), (3, 170), (4, 172), (5, 174), (6, 176), (7, 178)]),
  (7, [(0, 418), (1, 420), (2, 422)]),
  (8, [(0, 469), (1, 471), (2, 473), (3, 475), (4, 477), (5, 479), (6, 481)]),
  (9, [(0, 1352), (1, 1354), (2, 1356), (3, 1358), (4, 1360), (5, 1362), (6, 1364), (7, 1366), (8, 1368), (9, 1370), (10, 1372), (11, 1374), (12, 1376), (13, 1378), (14, 1380), (15, 1382), (16, 1384), (17, 1386), (18, 1388), (19, 1390), (20, 1392), (21, 1394), (22, 1396), (23, 1398), (24, 1400), (25, 1402), (26, 1404), (27, 1406), (28, 1408), (29, 1410), (30, 1412), (31, 1414), (32, 1416), (33, 1418), (34, 1420), (35, 1422), (36, 1424), (37, 1426), (38, 1428), (39, 1430), (40, 1432), (41, 1434), (42, 1436), (43, 1438), (44, 1440), (45, 1442), (46, 1444), (47, 1446), (48, 1448), (49, 1450), (50, 1452), (51, 1454), (52, 1456), (53, 1458), (54, 1460)])]
def lay_p (own k : Nat) : Nat := match lk lay_p_t own with
  | some t => (lk t k).getD 0
  | none => 0
def fld_p_t : List (Nat × List (Nat × Nat)) := [(0, [(9, 431), (15, 432), (18, 433), (22, 434), (25, 435), (28, 436), (31, 438), (35, 440), (38, 437), (64, 347), (68, 265), (73, 279), (84, 271), (92, 352), (95, 356)]),
  (1, [(9, 392), (15, 393), (18, 394), (21, 395), (25, 396), (32, 337)]),
  (2, [(9, 246), (15, 251), (18, 254), (21, 257), (24, 260), (27, 262), (30, 264), (33, 269), (36, 272), (39, 273), (47, 284), (51, 285), (54, 286), (57, 287), (60, 237), (64, 242), (67, 274), (70, 278)]),
  (3, [(9, 334), (15, 338), (18, 340), (21, 342), (24, 344), (34, 349), (38, 353), (41, 357), (44, 359), (47, 361), (53, 348), (65, 261), (94, 250), (97, 259), (100, 256), (103, 239), (126, 268), (136, 276)]),
  (4, [(9, 233)]),
  (5, [(9, 189), (15, 190), (19, 188), (23, 197), (27, 194), (30, 195), (61, 154), (68, 191), (72, 162), (75, 156), (106, 1942), (115, 247), (125, 253), (128, 275), (145, 280), (161, 282), (167, 193), (170, 196), (204, 159), (215, 1943), (224, 241), (227, 245), (233, 1941), (236, 161)]),
  (6, [(9, 150), (15, 152), (19, 153), (25, 157), (28, 163), (32, 155), (49, 158), (52, 160), (62, 1937)]),
  (7, [(9, 415), (15, 416), (18, 417), (22, 346), (25, 335), (32, 350), (36, 354), (49, 243), (54, 238), (65, 249), (90, 267)]),
  (8, [(10, 462), (21, 463), (35, 464), (42, 465), (48, 345), (53, 466), (60, 467), (64, 468), (72, 151), (80, 192), (98, 336), (102, 248), (105, 252), (108, 351), (111, 355), (122, 255), (125, 258), (128, 341), (131, 343), (137, 263), (140, 266), (143, 270), (183, 240), (223, 244), (251, 277), (260, 339), (288, 283), (308, 281), (311, 358), (314, 360), (317, 362), (323, 397), (332, 439)]),
  (9, [(7, 1299), (13, 1307), (16, 1308), (19, 1309), (22, 1310), (26, 1312), (29, 1313), (32, 1314), (35, 1315), (38, 1316), (41, 1317), (44, 1318), (47, 1319), (50, 1320), (53, 1324), (56, 1325), (60, 1326), (63, 1327), (66, 1328), (69, 1329), (72, 1330), (75, 1331), (78, 1332), (81, 1333), (84, 1334), (87, 1335), (90, 1337), (93, 1338), (96, 1339), (99, 1340), (102, 1342), (105, 1343), (108, 1344), (111, 1347), (114, 1351), (121, 1297), (127, 1298), (130, 1300), (133, 1301), (136, 1302), (139, 1304), (143, 1305), (146, 1303), (157, 1306), (160, 1321), (167, 1323), (270, 1311), (277, 1336), (283, 1322), (342, 1341), (428, 1345), (431, 1346), (448, 1348), (476, 1349), (499, 1350)]),
  (14, [(9, 1939), (15, 1938)])]
def fld_p (own k : Nat) : Nat := match lk fld_p_t own with
  | some t => (lk t k).getD 0
  | none => 0
def mth_p_t : List (Nat × List (Nat × Nat)) := [(0, [(3, 430), (41, 952), (45, 976), (48, 980), (51, 956), (54, 966), (58, 964), (76, 960), (80, 965), (87, 970), (98, 1082), (102, 1087)]),
  (1, [(3, 391), (28, 851), (37, 855), (41, 856), (47, 857), (52, 901), (56, 905), (60, 909)]),
  (2, [(3, 226), (44, 229), (73, 690), (79, 781), (86, 794), (90, 798), (94, 805), (98, 790), (102, 1155), (105, 1103), (108, 1086), (111, 808)]),
  (3, [(3, 330), (28, 331), (50, 763), (56, 767), (62, 921), (70, 925), (74, 863), (80, 837), (84, 840), (87, 841), (91, 842), (106, 843), (110, 862), (113, 872), (116, 873), (119, 874), (122, 875), (129, 887), (132, 1099), (139, 1151), (142, 1156), (145, 1159)]),
  (4, [(3, 232), (15, 802)]),
  (5, [(3, 187), (33, 500), (44, 608), (48, 617), (52, 621), (58, 630), (64, 631), (78, 612), (86, 637), (90, 643), (94, 654), (97, 660), (100, 678), (103, 691), (109, 699), (112, 616), (118, 647), (131, 664), (134, 668), (141, 674), (154, 686), (157, 695), (173, 705), (178, 736), (184, 750), (187, 751), (191, 709), (194, 727), (197, 719), (200, 713), (205, 625), (212, 723), (230, 651)]),
  (6, [(3, 149), (22, 504), (35, 508), (38, 515), (43, 520)]),
  (7, [(3, 414), (26, 996), (39, 997), (43, 1276), (57, 1001), (61, 1002), (69, 1011), (73, 1015), (76, 1007), (79, 1029), (82, 1259), (87, 1286), (93, 1056), (96, 1057), (100, 1052), (104, 1072), (107, 1068)]),
  (8, [(1, 141), (9, 146), (18, 184), (29, 223), (32, 327), (41, 388), (52, 411), (59, 427), (68, 488), (76, 496), (81, 755), (84, 759), (87, 768), (90, 777), (94, 785), (114, 786), (118, 813), (134, 821), (146, 825), (149, 833), (153, 847), (157, 858), (160, 868), (163, 879), (166, 883), (169, 897), (173, 917), (176, 933), (179, 934), (186, 939), (189, 943), (194, 948), (198, 984), (201, 992), (205, 1003), (208, 1020), (211, 1025), (214, 1034), (217, 1037), (220, 1045), (226, 1048), (229, 1064), (232, 1073), (236, 1078), (242, 1254), (245, 1255), (248, 1095), (254, 1114), (257, 1131), (263, 1143), (266, 1144), (269, 1147), (272, 1160), (275, 1168), (291, 1272), (295, 1277), (298, 1281), (301, 1282), (305, 1173), (320, 1181), (326, 1118), (329, 1122)]),
  (9, [(1, 1292), (117, 1293), (149, 1484), (184, 1594), (190, 1495), (194, 1514), (198, 1499), (201, 1604), (204, 1480), (211, 1663), (214, 1659), (217, 1667), (266, 1543), (273, 1507), (280, 1590), (287, 1503), (291, 1510), (294, 1523), (298, 1491), (301, 1539), (304, 1570), (307, 1574), (310, 1582), (313, 1519), (316, 1529), (319, 1535), (322, 1578), (325, 1586), (328, 1608), (331, 1616), (335, 1476), (338, 1612), (345, 1619), (348, 1631), (351, 1651), (355, 1655), (358, 1671), (362, 1647), (366, 1643), (370, 1639), (373, 1627), (376, 1635), (379, 1678), (382, 1694), (388, 1686), (391, 1690), (394, 1707), (398, 1699), (401, 1703), (404, 1710), (407, 1723), (410, 1715), (413, 1719), (416, 1727), (419, 1731), (422, 1747), (425, 1743), (434, 1771), (437, 1767), (441, 1763), (445, 1798), (451, 1794), (454, 1786), (458, 1779), (461, 1782), (464, 1790), (467, 1811), (470, 1823), (473, 1819), (479, 1830), (482, 1842), (486, 1850), (489, 1862), (492, 1882), (495, 1885), (510, 1909), (513, 1897), (516, 1905)]),
  (10, [(7, 1189), (15, 1263), (19, 138), (22, 1289), (25, 484), (29, 1467), (30, 492), (34, 1472), (35, 773), (39, 1623), (40, 809), (43, 1674), (44, 817), (47, 1682), (48, 829), (52, 1695), (53, 864), (57, 1711), (58, 893), (62, 1735), (63, 913), (67, 1739), (68, 929), (71, 1751), (72, 935), (75, 1755), (76, 944), (79, 1759), (80, 988), (83, 1775), (84, 1021), (87, 1803), (88, 1030), (91, 1807), (92, 1041), (95, 1815), (96, 1060), (99, 1838), (100, 1074), (103, 1826), (104, 1185), (109, 1834), (110, 1463), (113, 1091), (116, 1846), (117, 1106), (120, 1854), (121, 1110), (124, 1858), (125, 1123), (128, 1866), (129, 1127), (132, 1870), (133, 1135), (136, 1874), (137, 1139), (141, 1878), (142, 1164), (145, 1889), (146, 1260), (149, 1893), (150, 1169), (154, 1913), (155, 1177), (158, 1917)]),
  (13, [(150, 747), (304, 746)]),
  (14, [(335, 538), (492, 528), (505, 534), (633, 524), (637, 542)]),
  (15, [(38, 551), (88, 545), (92, 548), (95, 554)])]
def mth_p (own k : Nat) : Nat := match lk mth_p_t own with
  | some t => (lk t k).getD 0
  | none => 0
theorem lk_mem {α : Type} : ∀ (l : List (Nat × α)) {k : Nat} {v : α}, lk l k = some v → (k, v) ∈ l
  | [], _, _, h => by simp [lk] at h
  | e :: t, k, v, h => by
    unfold lk at h
    cases hb : Nat.beq e.1 k with
    | true =>
      rw [hb] at h
      have h1 : e.2 = v := Option.some.inj h
      have h2 : e.1 = k := Nat.eq_of_beq_eq_true hb
      rw [← h1, ← h2]
      exact List.mem_cons_self
    | false =>
      rw [hb] at h
      exact List.mem_cons_of_mem _ (lk_mem t h)
/-- the field link's word: of the own class, or of a nest mate -/
def fWd (own k c j : Nat) (nest : Bool) : Cond := bif nest then Cond.fieldLinkNest (oN own) k (RC c) (TC c j).2.1 (TC c j).2.2.1 "IceBridge" else Cond.fieldLink (oN own) k (RC c) (TC c j).2.1 (TC c j).2.2.1
def isNest : Cond → Bool
  | .fieldLinkNest .. => true
  | .methodLinkNest .. => true
  | _ => false
set_option maxRecDepth 100000 in
theorem lay_ck : ((List.range 10).all fun c => (List.range (NC c)).all fun k => decide (lw_tbl[lay_p c k]? = some (u_lay (RC c) (TC c) k)) && goodWord (u_lay (RC c) (TC c) k)) = true := by decide +kernel
abbrev MI : Type := MethodName × Option FieldType × Bool × Nat × Nat × Nat × Nat
def mdl_0 : List (Nat × MI) := [(0, ⟨"IceBridge$Carriage", "<init>", "()V"⟩, none, false, 429, 428, 0, 119),
  (1, ⟨"IceBridge$Carriage", "answer", "(I)I"⟩, (some .int), false, 987, 985, 986, 119),
  (2, ⟨"IceBridge$Carriage", "choose", "(LIceBridge$Ice;I)V"⟩, none, false, 951, 949, 950, 119),
  (3, ⟨"IceBridge$Carriage", "weighSets", "(LIceBridge$Ice;I)V"⟩, none, false, 955, 953, 954, 119),
  (4, ⟨"IceBridge$Carriage", "mayFollow", "(LIceBridge$Ice;III)Z"⟩, (some .boolean), false, 963, 962, 30, 119),
  (5, ⟨"IceBridge$Carriage", "reachSets", "(LIceBridge$Ice;I)V"⟩, none, false, 959, 958, 29, 119),
  (6, ⟨"IceBridge$Carriage", "findMostWorth", "(LIceBridge$Ice;)V"⟩, none, false, 969, 968, 31, 119),
  (7, ⟨"IceBridge$Carriage", "leadToMostWorth", "(LIceBridge$Ice;I)V"⟩, none, false, 979, 978, 32, 119),
  (8, ⟨"IceBridge$Carriage", "followLead", "(LIceBridge$Ice;I)V"⟩, none, false, 983, 982, 33, 119),
  (9, ⟨"IceBridge$Carriage", "lineUp", "(LIceBridge$Ice;I)V"⟩, none, false, 1081, 1079, 1080, 119)]
def mdl_1 : List (Nat × MI) := [(10, ⟨"IceBridge$Carriage", "insert", "(II)V"⟩, none, false, 1090, 1089, 38, 119),
  (11, ⟨"IceBridge$Deeds", "<init>", "()V"⟩, none, false, 390, 389, 0, 117),
  (12, ⟨"IceBridge$Deeds", "forget", "()V"⟩, none, false, 771, 769, 770, 117),
  (13, ⟨"IceBridge$Deeds", "keepPail", "(IILIceBridge$Ice;)V"⟩, none, false, 850, 848, 849, 117),
  (14, ⟨"IceBridge$Deeds", "keepLoad", "(IILIceBridge$Ice;)V"⟩, none, false, 882, 880, 881, 117),
  (15, ⟨"IceBridge$Deeds", "keep", "(IILIceBridge$Ice;)V"⟩, none, false, 854, 853, 26, 117),
  (16, ⟨"IceBridge$Deeds", "takeBack", "(LIceBridge$Ice;)Z"⟩, (some .boolean), false, 900, 898, 899, 117),
  (17, ⟨"IceBridge$Deeds", "restoreRow", "(LIceBridge$Ice;)I"⟩, (some .int), false, 904, 903, 27, 117),
  (18, ⟨"IceBridge$Fjord", "<init>", "(II)V"⟩, none, false, 225, 224, 0, 114),
  (19, ⟨"IceBridge$Fjord", "addPourer", "(III)V"⟩, none, false, 677, 675, 676, 114)]
def mdl_2 : List (Nat × MI) := [(20, ⟨"IceBridge$Fjord", "addLoad", "(III)V"⟩, none, false, 689, 687, 688, 114),
  (21, ⟨"IceBridge$Fjord", "setLaw", "(ILIceBridge$Law;)V"⟩, none, false, 754, 752, 753, 114),
  (22, ⟨"IceBridge$Fjord", "hasRow", "(I)Z"⟩, (some .boolean), false, 784, 782, 783, 114),
  (23, ⟨"IceBridge$Fjord", "hasCell", "(II)Z"⟩, (some .boolean), false, 780, 778, 779, 114),
  (24, ⟨"IceBridge$Fjord", "hasPourer", "(I)Z"⟩, (some .boolean), false, 816, 814, 815, 114),
  (25, ⟨"IceBridge$Fjord", "hasLoad", "(I)Z"⟩, (some .boolean), false, 824, 822, 823, 114),
  (26, ⟨"IceBridge$Fjord", "wearOf", "(I)I"⟩, (some .int), false, 890, 888, 889, 114),
  (27, ⟨"IceBridge$Fjord", "pailsOfAll", "()I"⟩, (some .int), false, 1280, 1278, 1279, 114),
  (28, ⟨"IceBridge$Fjord", "frostAt", "(III)I"⟩, (some .int), false, 793, 791, 792, 114),
  (29, ⟨"IceBridge$Fjord", "gripAt", "(III)I"⟩, (some .int), false, 789, 787, 788, 114)]
def mdl_3 : List (Nat × MI) := [(30, ⟨"IceBridge$Fjord", "meltAt", "(III)I"⟩, (some .int), false, 928, 926, 927, 114),
  (31, ⟨"IceBridge$Fjord", "meltSinceNoon", "(III)I"⟩, (some .int), false, 1154, 1152, 1153, 114),
  (32, ⟨"IceBridge$Fjord", "soundOf", "(IIII)I"⟩, (some .int), false, 1102, 1100, 1101, 114),
  (33, ⟨"IceBridge$Fjord", "rankOf", "(III)I"⟩, (some .int), false, 1085, 1083, 1084, 114),
  (34, ⟨"IceBridge$Fjord", "tellPlace", "(III)V"⟩, none, false, 797, 796, 24, 114),
  (35, ⟨"IceBridge$Fjord", "withinNine", "(I)I"⟩, (some .int), true, 807, 806, 0, 114),
  (36, ⟨"IceBridge$Ice", "<init>", "(LIceBridge$Fjord;)V"⟩, none, false, 329, 328, 0, 113),
  (37, ⟨"IceBridge$Ice", "begin", "(LIceBridge$Fjord;)V"⟩, none, false, 762, 760, 761, 113),
  (38, ⟨"IceBridge$Ice", "copyFrom", "(LIceBridge$Ice;)V"⟩, none, false, 1176, 1174, 1175, 113),
  (39, ⟨"IceBridge$Ice", "passHour", "()V"⟩, none, false, 920, 918, 919, 113)]
def mdl_4 : List (Nat × MI) := [(40, ⟨"IceBridge$Ice", "beginNight", "()V"⟩, none, false, 766, 765, 23, 113),
  (41, ⟨"IceBridge$Ice", "meltAll", "()V"⟩, none, false, 924, 923, 28, 113),
  (42, ⟨"IceBridge$Ice", "isGone", "(I)Z"⟩, (some .boolean), false, 828, 826, 827, 113),
  (43, ⟨"IceBridge$Ice", "mayPour", "(III)Z"⟩, (some .boolean), false, 836, 834, 835, 113),
  (44, ⟨"IceBridge$Ice", "isFirm", "(III)Z"⟩, (some .boolean), false, 846, 845, 25, 113),
  (45, ⟨"IceBridge$Ice", "pourPail", "(II)V"⟩, none, false, 861, 859, 860, 113),
  (46, ⟨"IceBridge$Ice", "mayGo", "(II)Z"⟩, (some .boolean), false, 871, 869, 870, 113),
  (47, ⟨"IceBridge$Ice", "goOver", "(II)V"⟩, none, false, 886, 884, 885, 113),
  (48, ⟨"IceBridge$Ice", "unpour", "(II)V"⟩, none, false, 908, 906, 907, 113),
  (49, ⟨"IceBridge$Ice", "comeBack", "(II)V"⟩, none, false, 912, 910, 911, 113)]
def mdl_5 : List (Nat × MI) := [(50, ⟨"IceBridge$Ice", "thinnest", "(I)I"⟩, (some .int), false, 878, 876, 877, 113),
  (51, ⟨"IceBridge$Ice", "thickInAll", "()I"⟩, (some .int), false, 1184, 1182, 1183, 113),
  (52, ⟨"IceBridge$Ice", "hoursAtLeast", "(II)I"⟩, (some .int), false, 942, 940, 941, 113),
  (53, ⟨"IceBridge$Ice", "soundAt", "(I)I"⟩, (some .int), false, 1098, 1096, 1097, 113),
  (54, ⟨"IceBridge$Ice", "pailsOf", "(I)I"⟩, (some .int), false, 1121, 1119, 1120, 113),
  (55, ⟨"IceBridge$Ice", "sharesOf", "(I)I"⟩, (some .int), false, 1134, 1132, 1133, 113),
  (56, ⟨"IceBridge$Ice", "fitsOf", "(III)I"⟩, (some .int), false, 1150, 1148, 1149, 113),
  (57, ⟨"IceBridge$Ice", "leastFit", "(III)I"⟩, (some .int), false, 1163, 1161, 1162, 113),
  (58, ⟨"IceBridge$Ice", "isLeft", "(III)Z"⟩, (some .boolean), true, 1158, 1157, 0, 113),
  (59, ⟨"IceBridge$Law", "<init>", "([I)V"⟩, none, false, 231, 230, 0, 115)]
def mdl_6 : List (Nat × MI) := [(60, ⟨"IceBridge$Law", "weigh", "([I[I)I"⟩, (some .int), false, 801, 799, 800, 115),
  (61, ⟨"IceBridge$Law", "joined", "(III)I"⟩, (some .int), true, 804, 803, 0, 115),
  (62, ⟨"IceBridge$Reader", "<init>", "(LIceBridge$Tape;)V"⟩, none, false, 186, 185, 0, 112),
  (63, ⟨"IceBridge$Reader", "read", "()I"⟩, (some .int), false, 499, 497, 498, 112),
  (64, ⟨"IceBridge$Reader", "readLine", "(LIceBridge$Fjord;)V"⟩, none, false, 634, 633, 6, 112),
  (65, ⟨"IceBridge$Reader", "readGround", "(LIceBridge$Fjord;I)V"⟩, none, false, 646, 645, 7, 112),
  (66, ⟨"IceBridge$Reader", "readCurrent", "(LIceBridge$Fjord;)V"⟩, none, false, 657, 656, 9, 112),
  (67, ⟨"IceBridge$Reader", "readPourer", "(LIceBridge$Fjord;)V"⟩, none, false, 663, 662, 10, 112),
  (68, ⟨"IceBridge$Reader", "readLoad", "(LIceBridge$Fjord;)V"⟩, none, false, 681, 680, 13, 112),
  (69, ⟨"IceBridge$Reader", "readMild", "(LIceBridge$Fjord;)V"⟩, none, false, 694, 693, 14, 112)]
def mdl_7 : List (Nat × MI) := [(70, ⟨"IceBridge$Reader", "readLaw", "(LIceBridge$Fjord;I)V"⟩, none, false, 702, 701, 16, 112),
  (71, ⟨"IceBridge$Reader", "tellOnce", "(I)V"⟩, none, false, 698, 697, 15, 112),
  (72, ⟨"IceBridge$Reader", "readChain", "(II)V"⟩, none, false, 708, 707, 17, 112),
  (73, ⟨"IceBridge$Reader", "readPart", "(I)V"⟩, none, false, 712, 711, 18, 112),
  (74, ⟨"IceBridge$Reader", "startsPart", "()Z"⟩, (some .boolean), false, 716, 715, 19, 112),
  (75, ⟨"IceBridge$Reader", "joiningSign", "()I"⟩, (some .int), false, 730, 729, 22, 112),
  (76, ⟨"IceBridge$Reader", "putFact", "()V"⟩, none, false, 726, 725, 21, 112),
  (77, ⟨"IceBridge$Reader", "put", "(I)V"⟩, none, false, 722, 721, 20, 112),
  (78, ⟨"IceBridge$Reader", "takeWord", "(LIceBridge$Word;)V"⟩, none, false, 611, 610, 2, 112),
  (79, ⟨"IceBridge$Reader", "takeSign", "(C)V"⟩, none, false, 624, 623, 5, 112)]
def mdl_8 : List (Nat × MI) := [(80, ⟨"IceBridge$Reader", "takeNumber", "(II)I"⟩, (some .int), false, 620, 619, 4, 112),
  (81, ⟨"IceBridge$Reader", "takeCell", "(LIceBridge$Fjord;[I)I"⟩, (some .int), false, 650, 649, 8, 112),
  (82, ⟨"IceBridge$Reader", "takeOneOf", "(I)I"⟩, (some .int), false, 671, 670, 12, 112),
  (83, ⟨"IceBridge$Reader", "takeName", "()V"⟩, none, false, 667, 666, 11, 112),
  (84, ⟨"IceBridge$Reader", "fail", "(II)V"⟩, none, false, 615, 614, 3, 112),
  (85, ⟨"IceBridge$Tape", "<init>", "()V"⟩, none, false, 148, 147, 0, 111),
  (86, ⟨"IceBridge$Tape", "append", "(J)V"⟩, none, false, 491, 489, 490, 111),
  (87, ⟨"IceBridge$Tape", "empty", "()V"⟩, none, false, 758, 756, 757, 111),
  (88, ⟨"IceBridge$Tape", "rewind", "()V"⟩, none, false, 503, 501, 502, 111),
  (89, ⟨"IceBridge$Tape", "advance", "()V"⟩, none, false, 507, 505, 506, 111)]
def mdl_9 : List (Nat × MI) := [(90, ⟨"IceBridge$Tape", "isSign", "(C)Z"⟩, (some .boolean), false, 628, 626, 627, 111),
  (91, ⟨"IceBridge$Tape", "readWord", "()V"⟩, none, false, 511, 510, 0, 111),
  (92, ⟨"IceBridge$Tape", "readNumber", "()V"⟩, none, false, 518, 517, 1, 111),
  (93, ⟨"IceBridge$Yard", "<init>", "(LIceBridge$Fjord;)V"⟩, none, false, 413, 412, 0, 118),
  (94, ⟨"IceBridge$Yard", "measure", "(LIceBridge$Ice;)V"⟩, none, false, 995, 993, 994, 118),
  (95, ⟨"IceBridge$Yard", "measureWater", "(LIceBridge$Fjord;IZ)V"⟩, none, false, 1275, 1273, 1274, 118),
  (96, ⟨"IceBridge$Yard", "measureGrips", "(II)V"⟩, none, false, 1000, 999, 34, 118),
  (97, ⟨"IceBridge$Yard", "isRock", "(I)Z"⟩, (some .boolean), false, 1014, 1013, 35, 118),
  (98, ⟨"IceBridge$Yard", "pailsOn", "(II)I"⟩, (some .int), false, 1018, 1017, 36, 118),
  (99, ⟨"IceBridge$Yard", "pailsFor", "(II)I"⟩, (some .int), false, 1010, 1008, 1009, 118)]
def mdl_10 : List (Nat × MI) := [(100, ⟨"IceBridge$Yard", "thicknessOf", "(II)I"⟩, (some .int), false, 1006, 1004, 1005, 118),
  (101, ⟨"IceBridge$Yard", "bestRow", "(I)I"⟩, (some .int), false, 1028, 1026, 1027, 118),
  (102, ⟨"IceBridge$Yard", "bearsBehind", "(IIIII)Z"⟩, (some .boolean), false, 1285, 1283, 1284, 118),
  (103, ⟨"IceBridge$Yard", "pailsOfHalf", "(II)I"⟩, (some .int), false, 1040, 1038, 1039, 118),
  (104, ⟨"IceBridge$Yard", "pailsToMend", "(II)I"⟩, (some .int), false, 1258, 1256, 1257, 118),
  (105, ⟨"IceBridge$Yard", "payOf", "(IIII)I"⟩, (some .int), false, 1055, 1054, 37, 118),
  (106, ⟨"IceBridge$Yard", "isRest", "(III)Z"⟩, (some .boolean), false, 1051, 1049, 1050, 118),
  (107, ⟨"IceBridge$Yard", "worstPay", "(IIII)I"⟩, (some .int), false, 1071, 1069, 1070, 118),
  (108, ⟨"IceBridge$Yard", "safestRow", "(III)I"⟩, (some .int), false, 1067, 1065, 1066, 118),
  (109, ⟨"IceBridge", "<init>", "()V"⟩, none, false, 140, 139, 0, 110)]
def mdl_11 : List (Nat × MI) := [(110, ⟨"IceBridge", "feed", "(JJJ)I"⟩, (some .int), false, 487, 485, 486, 110),
  (111, ⟨"IceBridge", "fjord", "()I"⟩, (some .int), false, 495, 493, 494, 110),
  (112, ⟨"IceBridge", "cell", "(III)I"⟩, (some .int), false, 776, 774, 775, 110),
  (113, ⟨"IceBridge", "pourer", "(II)I"⟩, (some .int), false, 812, 810, 811, 110),
  (114, ⟨"IceBridge", "load", "(II)I"⟩, (some .int), false, 820, 818, 819, 110),
  (115, ⟨"IceBridge", "pour", "(III)Z"⟩, (some .boolean), false, 832, 830, 831, 110),
  (116, ⟨"IceBridge", "over", "(II)Z"⟩, (some .boolean), false, 867, 865, 866, 110),
  (117, ⟨"IceBridge", "undo", "()Z"⟩, (some .boolean), false, 896, 894, 895, 110),
  (118, ⟨"IceBridge", "hours", "(I)I"⟩, (some .int), false, 916, 914, 915, 110),
  (119, ⟨"IceBridge", "thin", "(I)I"⟩, (some .int), false, 932, 930, 931, 110)]
def mdl_12 : List (Nat × MI) := [(120, ⟨"IceBridge", "until", "(II)I"⟩, (some .int), false, 938, 936, 937, 110),
  (121, ⟨"IceBridge", "carried", "(II)I"⟩, (some .int), false, 947, 945, 946, 110),
  (122, ⟨"IceBridge", "built", "(III)I"⟩, (some .int), false, 991, 989, 990, 110),
  (123, ⟨"IceBridge", "best", "(I)I"⟩, (some .int), false, 1024, 1022, 1023, 110),
  (124, ⟨"IceBridge", "half", "(II)I"⟩, (some .int), false, 1033, 1031, 1032, 110),
  (125, ⟨"IceBridge", "rests", "(II)I"⟩, (some .int), false, 1044, 1042, 1043, 110),
  (126, ⟨"IceBridge", "guess", "(IIII)I"⟩, (some .int), false, 1063, 1061, 1062, 110),
  (127, ⟨"IceBridge", "queue", "(II)I"⟩, (some .int), false, 1077, 1075, 1076, 110),
  (128, ⟨"IceBridge", "toll", "(II)I"⟩, (some .int), false, 1192, 1190, 1191, 110),
  (129, ⟨"IceBridge", "sound", "(II)I"⟩, (some .int), false, 1094, 1092, 1093, 110)]
def mdl_13 : List (Nat × MI) := [(130, ⟨"IceBridge", "heard", "(III)I"⟩, (some .int), false, 1109, 1107, 1108, 110),
  (131, ⟨"IceBridge", "value", "(I)I"⟩, (some .int), false, 1113, 1111, 1112, 110),
  (132, ⟨"IceBridge", "share", "(II)Z"⟩, (some .boolean), false, 1126, 1124, 1125, 110),
  (133, ⟨"IceBridge", "leaves", "()I"⟩, (some .int), false, 1130, 1128, 1129, 110),
  (134, ⟨"IceBridge", "stump", "(III)Z"⟩, (some .boolean), false, 1138, 1136, 1137, 110),
  (135, ⟨"IceBridge", "fits", "(IIIII)I"⟩, (some .int), false, 1142, 1140, 1141, 110),
  (136, ⟨"IceBridge", "salted", "(III)I"⟩, (some .int), false, 1167, 1165, 1166, 110),
  (137, ⟨"IceBridge", "winter", "(IIII)I"⟩, (some .int), false, 1266, 1264, 1265, 110),
  (138, ⟨"IceBridge", "mark", "(IZ)Z"⟩, (some .boolean), false, 1172, 1170, 1171, 110),
  (139, ⟨"IceBridge", "count", "(I)I"⟩, (some .int), false, 1180, 1178, 1179, 110)]
def mdl_14 : List (Nat × MI) := [(140, ⟨"IceBridge", "valueOf", "(I)I"⟩, (some .int), false, 1117, 1116, 39, 110),
  (141, ⟨"IceBridge", "cellAt", "(II)I"⟩, (some .int), true, 653, 652, 0, 110),
  (142, ⟨"IceBridge", "isSide", "(I)Z"⟩, (some .boolean), true, 1036, 1035, 0, 110),
  (143, ⟨"IceBridge", "isMisfit", "(I)Z"⟩, (some .boolean), true, 1047, 1046, 0, 110),
  (144, ⟨"IceBridge", "isNightHour", "(I)Z"⟩, (some .boolean), true, 839, 838, 0, 110),
  (145, ⟨"IceBridge", "isDayHour", "(I)Z"⟩, (some .boolean), true, 1146, 1145, 0, 110),
  (146, ⟨"IceBridgeModel", "<init>", "()V"⟩, none, false, 1291, 1290, 0, 120),
  (147, ⟨"IceBridgeModel", "thrown", "()I"⟩, (some .int), false, 1466, 1464, 1465, 120),
  (148, ⟨"IceBridgeModel", "within", "(III)Z"⟩, (some .boolean), true, 1509, 1508, 0, 120),
  (149, ⟨"IceBridgeModel", "between", "(III)I"⟩, (some .int), true, 1673, 1672, 0, 120)]
def mdl_15 : List (Nat × MI) := [(150, ⟨"IceBridgeModel", "feed", "(JJJ)I"⟩, (some .int), false, 1470, 1468, 1469, 120),
  (151, ⟨"IceBridgeModel", "signAt", "(I)I"⟩, (some .int), false, 1487, 1486, 44, 120),
  (152, ⟨"IceBridgeModel", "nextToken", "()V"⟩, none, false, 1483, 1482, 43, 120),
  (153, ⟨"IceBridgeModel", "isWord", "(J)Z"⟩, (some .boolean), false, 1498, 1497, 46, 120),
  (154, ⟨"IceBridgeModel", "isSign", "(I)Z"⟩, (some .boolean), false, 1517, 1516, 50, 120),
  (155, ⟨"IceBridgeModel", "fails", "(I)Z"⟩, (some .boolean), false, 1502, 1501, 47, 120),
  (156, ⟨"IceBridgeModel", "plain", "(I)V"⟩, none, false, 1296, 1295, 41, 120),
  (157, ⟨"IceBridgeModel", "puts", "(I)V"⟩, none, false, 1607, 1606, 64, 120),
  (158, ⟨"IceBridgeModel", "fact", "()I"⟩, (some .int), false, 1597, 1596, 63, 120),
  (159, ⟨"IceBridgeModel", "reads", "()Z"⟩, (some .boolean), false, 1593, 1592, 62, 120)]
def mdl_16 : List (Nat × MI) := [(160, ⟨"IceBridgeModel", "opens", "(I)V"⟩, none, false, 1662, 1661, 76, 120),
  (161, ⟨"IceBridgeModel", "sums", "(I)V"⟩, none, false, 1666, 1665, 77, 120),
  (162, ⟨"IceBridgeModel", "tests", "(I)V"⟩, none, false, 1670, 1669, 78, 120),
  (163, ⟨"IceBridgeModel", "worked", "(I)I"⟩, (some .int), false, 1658, 1657, 75, 120),
  (164, ⟨"IceBridgeModel", "isKept", "()Z"⟩, (some .boolean), false, 1546, 1545, 56, 120),
  (165, ⟨"IceBridgeModel", "takesName", "()Z"⟩, (some .boolean), false, 1542, 1541, 55, 120),
  (166, ⟨"IceBridgeModel", "needsNumber", "(II)Z"⟩, (some .boolean), false, 1506, 1505, 48, 120),
  (167, ⟨"IceBridgeModel", "needsWord", "(J)Z"⟩, (some .boolean), false, 1494, 1493, 45, 120),
  (168, ⟨"IceBridgeModel", "ends", "()Z"⟩, (some .boolean), false, 1513, 1512, 49, 120),
  (169, ⟨"IceBridgeModel", "readsLaw", "(I)Z"⟩, (some .boolean), false, 1589, 1588, 61, 120)]
def mdl_17 : List (Nat × MI) := [(170, ⟨"IceBridgeModel", "readsMild", "()Z"⟩, (some .boolean), false, 1611, 1610, 65, 120),
  (171, ⟨"IceBridgeModel", "needsCell", "(Z)Z"⟩, (some .boolean), false, 1526, 1525, 52, 120),
  (172, ⟨"IceBridgeModel", "readsKind", "(I)Z"⟩, (some .boolean), false, 1522, 1521, 51, 120),
  (173, ⟨"IceBridgeModel", "readsCurrent", "()Z"⟩, (some .boolean), false, 1532, 1531, 53, 120),
  (174, ⟨"IceBridgeModel", "sideAt", "()I"⟩, (some .int), false, 1573, 1572, 57, 120),
  (175, ⟨"IceBridgeModel", "pourerAt", "()I"⟩, (some .int), false, 1577, 1576, 58, 120),
  (176, ⟨"IceBridgeModel", "loadAt", "()I"⟩, (some .int), false, 1585, 1584, 60, 120),
  (177, ⟨"IceBridgeModel", "readsPourer", "()Z"⟩, (some .boolean), false, 1538, 1537, 54, 120),
  (178, ⟨"IceBridgeModel", "readsLoad", "()Z"⟩, (some .boolean), false, 1581, 1580, 59, 120),
  (179, ⟨"IceBridgeModel", "readsAll", "()Z"⟩, (some .boolean), false, 1479, 1478, 42, 120)]
def mdl_18 : List (Nat × MI) := [(180, ⟨"IceBridgeModel", "moves", "([IIII)V"⟩, none, true, 1618, 1617, 0, 120),
  (181, ⟨"IceBridgeModel", "lays", "(II)V"⟩, none, false, 1615, 1614, 66, 120),
  (182, ⟨"IceBridgeModel", "copies", "([II[II)V"⟩, none, true, 1709, 1708, 0, 120),
  (183, ⟨"IceBridgeModel", "fjord", "()I"⟩, (some .int), false, 1475, 1473, 1474, 120),
  (184, ⟨"IceBridgeModel", "fills", "()V"⟩, none, false, 1622, 1621, 67, 120),
  (185, ⟨"IceBridgeModel", "isRow", "(I)Z"⟩, (some .boolean), false, 1634, 1633, 69, 120),
  (186, ⟨"IceBridgeModel", "isCell", "(II)Z"⟩, (some .boolean), false, 1630, 1629, 68, 120),
  (187, ⟨"IceBridgeModel", "isPourer", "(I)Z"⟩, (some .boolean), false, 1681, 1680, 79, 120),
  (188, ⟨"IceBridgeModel", "isLoad", "(I)Z"⟩, (some .boolean), false, 1689, 1688, 80, 120),
  (189, ⟨"IceBridgeModel", "shows", "(III)V"⟩, none, false, 1654, 1653, 74, 120)]
def mdl_19 : List (Nat × MI) := [(190, ⟨"IceBridgeModel", "lawOf", "(IIIII)I"⟩, (some .int), false, 1650, 1649, 73, 120),
  (191, ⟨"IceBridgeModel", "gripBy", "(IIIZ)I"⟩, (some .int), false, 1646, 1645, 72, 120),
  (192, ⟨"IceBridgeModel", "gripAt", "(III)I"⟩, (some .int), false, 1642, 1641, 71, 120),
  (193, ⟨"IceBridgeModel", "gripNow", "(I)I"⟩, (some .int), false, 1638, 1637, 70, 120),
  (194, ⟨"IceBridgeModel", "cell", "(III)I"⟩, (some .int), false, 1626, 1624, 1625, 120),
  (195, ⟨"IceBridgeModel", "pourer", "(II)I"⟩, (some .int), false, 1677, 1675, 1676, 120),
  (196, ⟨"IceBridgeModel", "needOf", "(I)I"⟩, (some .int), false, 1693, 1692, 81, 120),
  (197, ⟨"IceBridgeModel", "wearOf", "(I)I"⟩, (some .int), false, 1730, 1729, 87, 120),
  (198, ⟨"IceBridgeModel", "load", "(II)I"⟩, (some .int), false, 1685, 1683, 1684, 120),
  (199, ⟨"IceBridgeModel", "keeps", "()V"⟩, none, false, 1706, 1705, 83, 120)]
def mdl_20 : List (Nat × MI) := [(200, ⟨"IceBridgeModel", "leads", "(III)Z"⟩, (some .boolean), false, 1702, 1701, 82, 120),
  (201, ⟨"IceBridgeModel", "pour", "(III)Z"⟩, (some .boolean), false, 1698, 1696, 1697, 120),
  (202, ⟨"IceBridgeModel", "sees", "(I)V"⟩, none, false, 1718, 1717, 84, 120),
  (203, ⟨"IceBridgeModel", "thinnest", "()I"⟩, (some .int), false, 1726, 1725, 86, 120),
  (204, ⟨"IceBridgeModel", "bears", "(I)Z"⟩, (some .boolean), false, 1722, 1721, 85, 120),
  (205, ⟨"IceBridgeModel", "wears", "(I)V"⟩, none, false, 1734, 1733, 88, 120),
  (206, ⟨"IceBridgeModel", "over", "(II)Z"⟩, (some .boolean), false, 1714, 1712, 1713, 120),
  (207, ⟨"IceBridgeModel", "undo", "()Z"⟩, (some .boolean), false, 1738, 1736, 1737, 120),
  (208, ⟨"IceBridgeModel", "melts", "(I)V"⟩, none, false, 1750, 1749, 90, 120),
  (209, ⟨"IceBridgeModel", "passes", "()V"⟩, none, false, 1746, 1745, 89, 120)]
def mdl_21 : List (Nat × MI) := [(210, ⟨"IceBridgeModel", "hours", "(I)I"⟩, (some .int), false, 1742, 1740, 1741, 120),
  (211, ⟨"IceBridgeModel", "thin", "(I)I"⟩, (some .int), false, 1754, 1752, 1753, 120),
  (212, ⟨"IceBridgeModel", "until", "(II)I"⟩, (some .int), false, 1758, 1756, 1757, 120),
  (213, ⟨"IceBridgeModel", "carries", "(IIII)V"⟩, none, false, 1770, 1769, 92, 120),
  (214, ⟨"IceBridgeModel", "thinnestBy", "(I)I"⟩, (some .int), false, 1774, 1773, 93, 120),
  (215, ⟨"IceBridgeModel", "seeks", "()V"⟩, none, false, 1766, 1765, 91, 120),
  (216, ⟨"IceBridgeModel", "carried", "(II)I"⟩, (some .int), false, 1762, 1760, 1761, 120),
  (217, ⟨"IceBridgeModel", "grasps", "(IIIZ)V"⟩, none, false, 1789, 1788, 95, 120),
  (218, ⟨"IceBridgeModel", "pailsTo", "(II)I"⟩, (some .int), false, 1801, 1800, 98, 120),
  (219, ⟨"IceBridgeModel", "allTo", "(I)I"⟩, (some .int), false, 1797, 1796, 97, 120)]
def mdl_22 : List (Nat × MI) := [(220, ⟨"IceBridgeModel", "builds", "(I)I"⟩, (some .int), false, 1793, 1792, 96, 120),
  (221, ⟨"IceBridgeModel", "arePails", "(I)Z"⟩, (some .boolean), true, 1781, 1780, 0, 120),
  (222, ⟨"IceBridgeModel", "looks", "(I)V"⟩, none, false, 1785, 1784, 94, 120),
  (223, ⟨"IceBridgeModel", "built", "(III)I"⟩, (some .int), false, 1778, 1776, 1777, 120),
  (224, ⟨"IceBridgeModel", "best", "(I)I"⟩, (some .int), false, 1806, 1804, 1805, 120),
  (225, ⟨"IceBridgeModel", "halfOf", "(II)I"⟩, (some .int), false, 1814, 1813, 99, 120),
  (226, ⟨"IceBridgeModel", "half", "(II)I"⟩, (some .int), false, 1810, 1808, 1809, 120),
  (227, ⟨"IceBridgeModel", "apart", "(II)I"⟩, (some .int), true, 1825, 1824, 0, 120),
  (228, ⟨"IceBridgeModel", "isRest", "(III)Z"⟩, (some .boolean), false, 1822, 1821, 100, 120),
  (229, ⟨"IceBridgeModel", "rests", "(II)I"⟩, (some .int), false, 1818, 1816, 1817, 120)]
def mdl_23 : List (Nat × MI) := [(230, ⟨"IceBridgeModel", "nextOf", "(I)I"⟩, (some .int), false, 1833, 1832, 101, 120),
  (231, ⟨"IceBridgeModel", "queue", "(II)I"⟩, (some .int), false, 1829, 1827, 1828, 120),
  (232, ⟨"IceBridgeModel", "toll", "(II)I"⟩, (some .int), false, 1837, 1835, 1836, 120),
  (233, ⟨"IceBridgeModel", "worstOf", "(IIII)I"⟩, (some .int), false, 1845, 1844, 102, 120),
  (234, ⟨"IceBridgeModel", "guess", "(IIII)I"⟩, (some .int), false, 1841, 1839, 1840, 120),
  (235, ⟨"IceBridgeModel", "soundOf", "(I)I"⟩, (some .int), false, 1853, 1852, 103, 120),
  (236, ⟨"IceBridgeModel", "sound", "(II)I"⟩, (some .int), false, 1849, 1847, 1848, 120),
  (237, ⟨"IceBridgeModel", "heard", "(III)I"⟩, (some .int), false, 1857, 1855, 1856, 120),
  (238, ⟨"IceBridgeModel", "valueOfSet", "(I)I"⟩, (some .int), false, 1865, 1864, 104, 120),
  (239, ⟨"IceBridgeModel", "value", "(I)I"⟩, (some .int), false, 1861, 1859, 1860, 120)]
def mdl_24 : List (Nat × MI) := [(240, ⟨"IceBridgeModel", "share", "(II)Z"⟩, (some .boolean), false, 1869, 1867, 1868, 120),
  (241, ⟨"IceBridgeModel", "leaves", "()I"⟩, (some .int), false, 1873, 1871, 1872, 120),
  (242, ⟨"IceBridgeModel", "stump", "(III)Z"⟩, (some .boolean), false, 1877, 1875, 1876, 120),
  (243, ⟨"IceBridgeModel", "fitsBy", "(IIIZI)I"⟩, (some .int), false, 1888, 1887, 105, 120),
  (244, ⟨"IceBridgeModel", "areHours", "(II)Z"⟩, (some .boolean), true, 1884, 1883, 0, 120),
  (245, ⟨"IceBridgeModel", "fits", "(IIIII)I"⟩, (some .int), false, 1881, 1879, 1880, 120),
  (246, ⟨"IceBridgeModel", "salted", "(III)I"⟩, (some .int), false, 1892, 1890, 1891, 120),
  (247, ⟨"IceBridgeModel", "draws", "(I)I"⟩, (some .int), false, 1900, 1899, 106, 120),
  (248, ⟨"IceBridgeModel", "waters", "(I)V"⟩, none, false, 1912, 1911, 108, 120),
  (249, ⟨"IceBridgeModel", "bestOf", "(IZI)I"⟩, (some .int), false, 1908, 1907, 107, 120)]
def mdl_25 : List (Nat × MI) := [(250, ⟨"IceBridgeModel", "winter", "(IIII)I"⟩, (some .int), false, 1896, 1894, 1895, 120),
  (251, ⟨"IceBridgeModel", "mark", "(IZ)Z"⟩, (some .boolean), false, 1916, 1914, 1915, 120),
  (252, ⟨"IceBridgeModel", "count", "(I)I"⟩, (some .int), false, 1920, 1918, 1919, 120),
  (253, ⟨"java/lang/Integer", "bitCount", "(I)I"⟩, (some .int), true, 972, 971, 0, 131),
  (254, ⟨"java/lang/Math", "floorMod", "(II)I"⟩, (some .int), true, 1105, 1104, 0, 123),
  (255, ⟨"java/lang/String", "length", "()I"⟩, (some .int), false, 537, 535, 536, 121),
  (256, ⟨"java/lang/String", "indexOf", "(I)I"⟩, (some .int), false, 523, 521, 522, 121),
  (257, ⟨"java/lang/String", "indexOf", "(II)I"⟩, (some .int), false, 527, 525, 526, 121),
  (258, ⟨"java/lang/String", "coder", "()B"⟩, (some .byte), false, 541, 539, 540, 121),
  (259, ⟨"java/lang/String", "isLatin1", "()Z"⟩, (some .boolean), false, 531, 529, 530, 121)]
def mdl_26 : List (Nat × MI) := [(260, ⟨"java/lang/String", "checkBoundsBeginEnd", "(III)V"⟩, none, true, 574, 573, 0, 121),
  (261, ⟨"java/lang/StringLatin1", "canEncode", "(I)Z"⟩, (some .boolean), true, 547, 546, 0, 122),
  (262, ⟨"java/lang/StringLatin1", "indexOf", "([BIII)I"⟩, (some .int), true, 544, 543, 0, 122),
  (263, ⟨"java/lang/StringLatin1", "indexOfChar", "([BIII)I"⟩, (some .int), true, 556, 555, 0, 122),
  (264, ⟨"java/util/Arrays", "fill", "([II)V"⟩, none, true, 333, 332, 0, 116),
  (265, ⟨"java/util/Arrays", "copyOf", "([II)[I"⟩, (some (.array .int)), true, 738, 737, 0, 116),
  (266, ⟨"IceBridgeLaw", "toll", "(LIceBridge;II[J)I"⟩, (some .int), true, 0, 1186, 0, 109),
  (267, ⟨"IceBridgeLaw", "winter", "(LIceBridge;IIII[J)I"⟩, (some .int), true, 0, 1261, 0, 109),
  (268, ⟨"IceBridgeLaw", "law", "([I)Z"⟩, (some .boolean), true, 0, 0, 0, 109)]
def mdl : List (Nat × MI) := mdl_0 ++ mdl_1 ++ mdl_2 ++ mdl_3 ++ mdl_4 ++ mdl_5 ++ mdl_6 ++ mdl_7 ++ mdl_8 ++ mdl_9 ++ mdl_10 ++ mdl_11 ++ mdl_12 ++ mdl_13 ++ mdl_14 ++ mdl_15 ++ mdl_16 ++ mdl_17 ++ mdl_18 ++ mdl_19 ++ mdl_20 ++ mdl_21 ++ mdl_22 ++ mdl_23 ++ mdl_24 ++ mdl_25 ++ mdl_26
def mI (k : Nat) : MI := (lk mdl k).getD (⟨"", "", ""⟩, none, false, 0, 0, 0, 0)
def bytesOf (w : Option Cond) : ByteArray := match w with
  | some (.code _ b _ _) => b
  | _ => ByteArray.empty
def spB : List (Nat × ByteArray) := [(266, method_3_code), (267, method_4_code), (268, code)]
def mN (k : Nat) : MethodName := (mI k).1
def mC (k : Nat) : ByteArray := match lk spB k with
  | some b => b
  | none => bytesOf lw_tbl[(mI k).2.2.2.1]?
def mR (k : Nat) : Option FieldType := (mI k).2.1
def rtC (rt : Nat) (r : Option FieldType) : Bool := match rt, r with
  | 0, none => true
  | 1, some .int => true
  | 2, some .boolean => true
  | 3, some .long => true
  | 4, some (.array .int) => true
  | 5, some .byte => true
  | _, _ => false
def isC (w : Option Cond) (y : MethodName) (n : Nat) (r : Option FieldType) : Bool := match w with
  | some (.code y2 _ n2 r2) => decide (y2 = y) && decide (n2 = n) && decide (r2 = r)
  | _ => false
/-- a method's words: its code, static or not, which is selected, its class is initialised -/
def okM (q : Nat × MI) : Bool := isC lw_tbl[q.2.2.2.2.1]? q.2.1 (meth q.1).2.2.1 q.2.2.1 &&
  decide (lw_tbl[q.2.2.2.2.2.1]? = some (bif q.2.2.2.1 then .static q.2.1 else .instanceMethod q.2.1)) &&
  (q.2.2.2.1 || decide (q.2.1.name = "<init>") || decide (lw_tbl[q.2.2.2.2.2.2.1]? = some (.selects q.2.1.cls q.2.1 q.2.1))) && decide (lw_tbl[q.2.2.2.2.2.2.2]? = some (.initialized q.2.1.cls)) &&
  decide (oN (meth q.1).1 = q.2.1.cls) && rtC (meth q.1).2.1 q.2.2.1 && decide ((meth q.1).2.2.1 ≤ 22) && plainFor q.2.1 && decide (q.2.1.cls ≠ "java/lang/invoke/MethodHandle") && decide (q.2.1.cls ≠ "java/lang/invoke/VarHandle")
def spec : List Nat := [266, 267, 268]

set_option maxRecDepth 100000 in
theorem mdl_ck_0 : (mdl_0.all fun q => spec.any (Nat.beq q.1) || okM q) = true := by decide +kernel
set_option maxRecDepth 100000 in
theorem mdl_ck_1 : (mdl_1.all fun q => spec.any (Nat.beq q.1) || okM q) = true := by decide +kernel
set_option maxRecDepth 100000 in
theorem mdl_ck_2 : (mdl_2.all fun q => spec.any (Nat.beq q.1) || okM q) = true := by decide +kernel
set_option maxRecDepth 100000 in
theorem mdl_ck_3 : (mdl_3.all fun q => spec.any (Nat.beq q.1) || okM q) = true := by decide +kernel
set_option maxRecDepth 100000 in
theorem mdl_ck_4 : (mdl_4.all fun q => spec.any (Nat.beq q.1) || okM q) = true := by decide +kernel
set_option maxRecDepth 100000 in
theorem mdl_ck_5 : (mdl_5.all fun q => spec.any (Nat.beq q.1) || okM q) = true := by decide +kernel
set_option maxRecDepth 100000 in
theorem mdl_ck_6 : (mdl_6.all fun q => spec.any (Nat.beq q.1) || okM q) = true := by decide +kernel
set_option maxRecDepth 100000 in
theorem mdl_ck_7 : (mdl_7.all fun q => spec.any (Nat.beq q.1) || okM q) = true := by decide +kernel
set_option maxRecDepth 100000 in
theorem mdl_ck_8 : (mdl_8.all fun q => spec.any (Nat.beq q.1) || okM q) = true := by decide +kernel
set_option maxRecDepth 100000 in
theorem mdl_ck_9 : (mdl_9.all fun q => spec.any (Nat.beq q.1) || okM q) = true := by decide +kernel
set_option maxRecDepth 100000 in
theorem mdl_ck_10 : (mdl_10.all fun q => spec.any (Nat.beq q.1) || okM q) = true := by decide +kernel
set_option maxRecDepth 100000 in
theorem mdl_ck_11 : (mdl_11.all fun q => spec.any (Nat.beq q.1) || okM q) = true := by decide +kernel
set_option maxRecDepth 100000 in
theorem mdl_ck_12 : (mdl_12.all fun q => spec.any (Nat.beq q.1) || okM q) = true := by decide +kernel
set_option maxRecDepth 100000 in
theorem mdl_ck_13 : (mdl_13.all fun q => spec.any (Nat.beq q.1) || okM q) = true := by decide +kernel
set_option maxRecDepth 100000 in
theorem mdl_ck_14 : (mdl_14.all fun q => spec.any (Nat.beq q.1) || okM q) = true := by decide +kernel
set_option maxRecDepth 100000 in
theorem mdl_ck_15 : (mdl_15.all fun q => spec.any (Nat.beq q.1) || okM q) = true := by decide +kernel
set_option maxRecDepth 100000 in
theorem mdl_ck_16 : (mdl_16.all fun q => spec.any (Nat.beq q.1) || okM q) = true := by decide +kernel
set_option maxRecDepth 100000 in
theorem mdl_ck_17 : (mdl_17.all fun q => spec.any (Nat.beq q.1) || okM q) = true := by decide +kernel
set_option maxRecDepth 100000 in
theorem mdl_ck_18 : (mdl_18.all fun q => spec.any (Nat.beq q.1) || okM q) = true := by decide +kernel
set_option maxRecDepth 100000 in
theorem mdl_ck_19 : (mdl_19.all fun q => spec.any (Nat.beq q.1) || okM q) = true := by decide +kernel
set_option maxRecDepth 100000 in
theorem mdl_ck_20 : (mdl_20.all fun q => spec.any (Nat.beq q.1) || okM q) = true := by decide +kernel
set_option maxRecDepth 100000 in
theorem mdl_ck_21 : (mdl_21.all fun q => spec.any (Nat.beq q.1) || okM q) = true := by decide +kernel
set_option maxRecDepth 100000 in
theorem mdl_ck_22 : (mdl_22.all fun q => spec.any (Nat.beq q.1) || okM q) = true := by decide +kernel
set_option maxRecDepth 100000 in
theorem mdl_ck_23 : (mdl_23.all fun q => spec.any (Nat.beq q.1) || okM q) = true := by decide +kernel
set_option maxRecDepth 100000 in
theorem mdl_ck_24 : (mdl_24.all fun q => spec.any (Nat.beq q.1) || okM q) = true := by decide +kernel
set_option maxRecDepth 100000 in
theorem mdl_ck_25 : (mdl_25.all fun q => spec.any (Nat.beq q.1) || okM q) = true := by decide +kernel
set_option maxRecDepth 100000 in
theorem mdl_ck_26 : (mdl_26.all fun q => spec.any (Nat.beq q.1) || okM q) = true := by decide +kernel
