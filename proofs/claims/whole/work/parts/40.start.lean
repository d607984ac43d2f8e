/-! the start: what the Statement gives, as the abstract heap has it (tables by wip/whole/gen_start.py) -/
def gvL : List Cond := flatC (Jvm.Cond.and given_1 narrow_1)
def eN (i : Nat) : String := (sTab.getD i ("", "", "", vu)).2.1
def eW (i : Nat) : Term := .static "IceBridge$Word" (eN i) "LIceBridge$Word;"
def evI (i j : Nat) : Int := if j = 1 then en_group.getD i 0 else if j = 2 then en_number.getD i 0 else if j = 3 then en_fact.getD i 0 else if j = 4 then (i : Int) else 0
def gx_ex : List Nat := [49, 152, 158, 164, 93, 170, 99, 176, 105, 111, 182, 188, 194, 200, 206, 212, 218, 224, 230, 236, 242, 248, 254, 260, 266, 272, 124, 130, 136, 278, 284, 290, 296, 302, 308]
def gx_lay : List Nat := [607, 1944, 1945, 1946, 659, 1947, 673, 1948, 683, 685, 1949, 1950, 1951, 1952, 1953, 1954, 1955, 1956, 1957, 1958, 1959, 1960, 1961, 1962, 1963, 1964, 718, 732, 734, 1965, 1966, 1967, 1968, 1969, 1970]
def gx_f0 : List Nat := [51, 154, 160, 166, 95, 172, 101, 178, 107, 113, 184, 190, 196, 202, 208, 214, 220, 226, 232, 238, 244, 250, 256, 262, 268, 274, 126, 132, 138, 280, 286, 292, 298, 304, 310]
def gx_f1 : List Nat := [52, 155, 161, 167, 96, 173, 102, 179, 108, 114, 185, 191, 197, 203, 209, 215, 221, 227, 233, 239, 245, 251, 257, 263, 269, 275, 127, 133, 139, 281, 287, 293, 299, 305, 311]
def gx_f2 : List Nat := [53, 156, 162, 168, 97, 174, 103, 180, 109, 115, 186, 192, 198, 204, 210, 216, 222, 228, 234, 240, 246, 252, 258, 264, 270, 276, 128, 134, 140, 282, 288, 294, 300, 306, 312]
def gx_f3 : List Nat := [54, 157, 163, 169, 98, 175, 104, 181, 110, 116, 187, 193, 199, 205, 211, 217, 223, 229, 235, 241, 247, 253, 259, 265, 271, 277, 129, 135, 141, 283, 289, 295, 301, 307, 313]
def gx_f4 : List Nat := [50, 153, 159, 165, 94, 171, 100, 177, 106, 112, 183, 189, 195, 201, 207, 213, 219, 225, 231, 237, 243, 249, 255, 261, 267, 273, 125, 131, 137, 279, 285, 291, 297, 303, 309]
def gx_f (j : Nat) : List Nat := ([gx_f0, gx_f1, gx_f2, gx_f3, gx_f4] : List (List Nat)).getD j []
set_option maxRecDepth 100000 in
theorem gx_ck1 : ((List.range 35).all fun i => decide (gvL[gx_ex.getD i 0]? = some (.exactly (eW i) "IceBridge$Word"))) = true := by decide +kernel
set_option maxRecDepth 100000 in
theorem gx_ck2 : ((List.range 35).all fun i => decide (lw_tbl[gx_lay.getD i 0]? = some (.laysStatic "IceBridge$Word" (eN i) "LIceBridge$Word;"))) = true := by decide +kernel
set_option maxRecDepth 100000 in
theorem gx_ck3 : ((List.range 35).all fun i => decide (gvL[gx_f0.getD i 0]? = some (.eq (.field (eW i) "IceBridge$Word" "code" "J") (.long (Int64.ofInt (en_code.getD i 0)))))) = true := by decide +kernel
set_option maxRecDepth 100000 in
theorem gx_ck4 : ((List.range 35).all fun i => (List.range 5).all fun j => Nat.beq j 0 || decide (gvL[(gx_f j).getD i 0]? = some (.eq (.field (eW i) (nmF 20 j).1 (nmF 20 j).2.1 (nmF 20 j).2.2) (.int (Int32.ofInt (evI i j)))))) = true := by decide +kernel
def gt_36 : Term := .static "IceBridge" "WORDS" "[LIceBridge$Word;"
def gx_36 : List Nat := [9, 10, 11, 12, 13, 14, 15, 16, 17, 18, 19, 20, 21, 22, 23, 24, 25, 26, 27, 28, 29, 30, 31, 32, 33, 34, 35, 36, 37, 38, 39, 40, 41, 42, 43]
set_option maxRecDepth 100000 in
theorem gx_ck36 : gvL[6]? = some (.arrayOf gt_36 (.object "IceBridge$Word")) ∧ gvL[7]? = some (.eq (.length gt_36) (.int (Int32.ofNat 35))) ∧ ((List.range 35).all fun j => decide (gvL[gx_36.getD j 0]? = some (.eq (.elem gt_36 (.int (Int32.ofNat j))) (eW j)))) = true := by decide +kernel
def gt_37 : Term := .static "IceBridge" "WEARS" "[I"
def gx_37 : List Nat := [145, 146, 147, 148, 149]
set_option maxRecDepth 100000 in
theorem gx_ck37 : gvL[143]? = some (.arrayOf gt_37 .int) ∧ gvL[144]? = some (.eq (.length gt_37) (.int (Int32.ofNat 5))) ∧ ((List.range 5).all fun j => decide (gvL[gx_37.getD j 0]? = some (.eq (.elem gt_37 (.int (Int32.ofNat j))) (.int (Int32.ofInt (st_wears.getD j 0)))))) = true := by decide +kernel
def gt_38 : Term := .static "IceBridge" "LAW_FACTS" "[I"
def gx_38 : List Nat := [120, 121, 122, 123]
set_option maxRecDepth 100000 in
theorem gx_ck38 : gvL[118]? = some (.arrayOf gt_38 .int) ∧ gvL[119]? = some (.eq (.length gt_38) (.int (Int32.ofNat 4))) ∧ ((List.range 4).all fun j => decide (gvL[gx_38.getD j 0]? = some (.eq (.elem gt_38 (.int (Int32.ofNat j))) (.int (Int32.ofInt (st_facts.getD j 0)))))) = true := by decide +kernel
def gt_39 : Term := .static "IceBridge$1" "$SwitchMap$IceBridge$Word" "[I"
def gx_39 : List Nat := [58, 59, 60, 61, 62, 63, 64, 65, 66, 67, 68, 69, 70, 71, 72, 73, 74, 75, 76, 77, 78, 79, 80, 81, 82, 83, 84, 85, 86, 87, 88, 89, 90, 91, 92]
set_option maxRecDepth 100000 in
theorem gx_ck39 : gvL[56]? = some (.arrayOf gt_39 .int) ∧ gvL[57]? = some (.eq (.length gt_39) (.int (Int32.ofNat 35))) ∧ ((List.range 35).all fun j => decide (gvL[gx_39.getD j 0]? = some (.eq (.elem gt_39 (.int (Int32.ofNat j))) (.int (Int32.ofInt (st_switch.getD j 0)))))) = true := by decide +kernel
def gt_42 : Term := .field (.string "IceBridge$Tape" 41) "java/lang/String" "value" "[B"
def gx_42 : List Nat := [329, 330, 331, 332, 333, 334, 335, 336]
set_option maxRecDepth 100000 in
theorem gx_ck42 : gvL[327]? = some (.arrayOf gt_42 .byte) ∧ gvL[328]? = some (.eq (.length gt_42) (.int (Int32.ofNat 8))) ∧ ((List.range 8).all fun j => decide (gvL[gx_42.getD j 0]? = some (.eq (.elem gt_42 (.int (Int32.ofNat j))) (.int (Int32.ofInt (st_bytes.getD j 0)))))) = true := by decide +kernel
set_option maxRecDepth 100000 in
theorem gx_ck5 : gvL[325]? = some (.exactly (.string "IceBridge$Tape" 41) "java/lang/String") ∧ gvL[326]? = some (.eq (.field (.string "IceBridge$Tape" 41) "java/lang/String" "coder" "B") (.int 0)) ∧ gvL[44]? = some (.eq (.static "java/lang/String" "COMPACT_STRINGS" "Z") (.int 1)) ∧ gvL[150]? = some (.isRef (.static Bundle.tN "UNASSIGNED_STACK" Bundle.steD)) ∧ gvL[151]? = some (.isRef (.static Bundle.tN "SUPPRESSED_SENTINEL" Bundle.listD)) := by decide +kernel
set_option maxRecDepth 100000 in
theorem gx_ck6 : lw_tbl[514]? = some (.laysStatic "IceBridge" "WORDS" "[LIceBridge$Word;") ∧ lw_tbl[892]? = some (.laysStatic "IceBridge" "WEARS" "[I") ∧ lw_tbl[704]? = some (.laysStatic "IceBridge" "LAW_FACTS" "[I") ∧ lw_tbl[636]? = some (.laysStatic "IceBridge$1" "$SwitchMap$IceBridge$Word" "[I") ∧ lw_tbl[533]? = some (.laysStatic "java/lang/String" "COMPACT_STRINGS" "Z") ∧ lw_tbl[1220]? = some (.laysStatic Bundle.tN "UNASSIGNED_STACK" Bundle.steD) ∧ lw_tbl[1222]? = some (.laysStatic Bundle.tN "SUPPRESSED_SENTINEL" Bundle.listD) ∧ lw_tbl[519]? = some (.stringRef "IceBridge$Tape" 41 "()<=+-*;") ∧ lw_tbl[128]? = some (.initialized "IceBridge$Word") ∧ lw_tbl[110]? = some (.initialized "IceBridge") ∧ lw_tbl[129]? = some (.initialized "IceBridge$1") ∧ lw_tbl[121]? = some (.initialized "java/lang/String") ∧ lw_tbl[132]? = some (.initialized Bundle.tN) := by decide +kernel
set_option maxRecDepth 100000 in
theorem gx_ck7 : lw_tbl[461]? = some (.arrayOver (.object "IceBridge$Ice")) ∧ lw_tbl[1196]? = some (.declares ⟨"java/lang/RuntimeException", "<init>", "()V"⟩) ∧ lw_tbl[1198]? = some (.declares ⟨"java/lang/Exception", "<init>", "()V"⟩) ∧ lw_tbl[1200]? = some (.declares ⟨"java/lang/Throwable", "<init>", "()V"⟩) ∧ lw_tbl[1195]? = some (.castable "java/util/NoSuchElementException" "java/util/NoSuchElementException") := by decide +kernel
