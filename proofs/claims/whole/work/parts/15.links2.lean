/-! more links: classes, constants, statics, words of single members (written by wip/whole/gen_links2.py) -/
def cls_p_t : List (Nat × List (Nat × Nat)) := [(2, [(42, 227)]),
  (5, [(56, 629), (176, 735)]),
  (8, [(7, 144), (16, 182), (25, 219), (27, 221), (39, 386), (46, 409), (57, 425), (239, 1193)]),
  (10, [(8, 136), (20, 1287)])]
def cls_p (own k : Nat) : Nat := match lk cls_p_t own with
  | some t => (lk t k).getD 0
  | none => 0
def con_p_t : List (Nat × List (Nat × Nat)) := [(6, [(41, 0), (56, 512)]),
  (7, [(68, 1019)]),
  (8, [(278, 1267), (280, 1268), (282, 1269), (284, 1270), (286, 1271)]),
  (9, [(125, 1471), (153, 1488), (155, 1489), (163, 1598), (165, 1599), (170, 1549), (172, 1550), (174, 1600), (176, 1601), (178, 1602), (180, 1528), (182, 1603), (188, 1567), (207, 1568), (209, 1569), (220, 1490), (222, 1518), (224, 1527), (226, 1533), (228, 1534), (230, 1547), (232, 1548), (234, 1551), (236, 1552), (238, 1553), (240, 1554), (242, 1555), (244, 1556), (246, 1557), (248, 1558), (250, 1559), (252, 1560), (254, 1561), (256, 1562), (258, 1563), (260, 1564), (262, 1565), (264, 1566), (444, 1802), (502, 1901), (504, 1902), (506, 1903), (508, 1904)]),
  (10, [(23, 1921)]),
  (12, [(265, 973), (266, 974), (267, 975)])]
def con_p (own k : Nat) : Nat := match lk con_p_t own with
  | some t => (lk t k).getD 0
  | none => 0
def sta_p_t : List (Nat × List (Nat × Nat)) := [(2, [(83, 891)]),
  (5, [(38, 606), (81, 635), (122, 658), (138, 672), (148, 682), (151, 684), (164, 703), (209, 717), (218, 731), (221, 733)]),
  (6, [(58, 513)]),
  (14, [(38, 532)])]
def sta_p (own k : Nat) : Nat := match lk sta_p_t own with
  | some t => (lk t k).getD 0
  | none => 0
def ins_p (c : Nat) : Nat := ([426, 387, 222, 220, 228, 183, 145, 410, 137, 1288] : List Nat).getD c 0
def ini_p (c : Nat) : Nat := ([119, 117, 114, 113, 115, 112, 111, 118, 110, 120] : List Nat).getD c 0
def arr_p (t : Nat) : Nat := ([181, 217, 218, 460] : List Nat).getD (t - 10) 0
theorem ins_ck : ((List.range 10).all fun c => decide (lw_tbl[ins_p c]? = some (.instantiable (RC c) (NC c))) && decide (lw_tbl[ini_p c]? = some (.initialized (RC c)))) = true := by decide +kernel
def nOK (own k : Nat) (q : Nat × Nat) : Bool := decide (q.1 = 99) || (decide (q.1 = 14) && decide (lw_tbl[cls_p own k]? = some (.classLink (oN own) k "IceBridge$Ice"))) || (decide (q.1 ≤ 9) && decide (q.2 = NC q.1) && decide (lw_tbl[cls_p own k]? = some (.classLink (oN own) k (RC q.1))))
theorem new_ck : (nres_t.all fun o => o.2.all fun e => nOK o.1 e.1 e.2) = true := by decide +kernel
theorem new_of {own k q n : Nat} (h : nres own k = some (q, n)) : nOK own k (q, n) = true := by
  unfold nres at h
  cases h1 : lk nres_t own with
  | none => rw [h1] at h; cases h
  | some tb =>
    rw [h1] at h
    exact all_of (all_of new_ck (lk_mem _ h1)) (lk_mem _ h)
theorem arr_ck : lw_tbl[arr_p 10]? = some (.arrayClass .char) ∧ lw_tbl[arr_p 11]? = some (.arrayClass .int) ∧ lw_tbl[arr_p 12]? = some (.arrayClass .long) ∧ lw_tbl[arr_p 13]? = some (.arrayClass .boolean) := by decide +kernel
def kOK (own k : Nat) (v : AV) : Bool := match v with
  | .inl x => decide (lw_tbl[con_p own k]? = some (.constant (oN own) k (Int32.ofInt x))) && decide (-2147483648 ≤ x) && decide (x < 2147483648)
  | .inr (.inl x) => decide (lw_tbl[con_p own k]? = some (.constantLong (oN own) k (Int64.ofInt x))) && decide (-9223372036854775808 ≤ x) && decide (x < 9223372036854775808)
  | .inr (.inr (.inl a)) => decide (a = 41) && decide (own = 6) && decide (k = 41)
  | _ => false
theorem con_ck : (kres_t.all fun o => o.2.all fun e => kOK o.1 e.1 e.2) = true := by decide +kernel
theorem con_of {own k : Nat} {v : AV} (h : kres own k = some v) : kOK own k v = true := by
  unfold kres at h
  cases h1 : lk kres_t own with
  | none => rw [h1] at h; cases h
  | some tb =>
    rw [h1] at h
    exact all_of (all_of con_ck (lk_mem _ h1)) (lk_mem _ h)
/-- the static fields: class, name, descriptor, what each holds -/
def sTab : List (String × String × String × AV) := [("IceBridge$Word", "FJORD", "LIceBridge$Word;", vr 1), ("IceBridge$Word", "ROCKS", "LIceBridge$Word;", vr 2), ("IceBridge$Word", "SALTS", "LIceBridge$Word;", vr 3), ("IceBridge$Word", "CURRENT", "LIceBridge$Word;", vr 4), ("IceBridge$Word", "AT", "LIceBridge$Word;", vr 5), ("IceBridge$Word", "POURER", "LIceBridge$Word;", vr 6), ("IceBridge$Word", "PAILS", "LIceBridge$Word;", vr 7), ("IceBridge$Word", "LOAD", "LIceBridge$Word;", vr 8), ("IceBridge$Word", "HEAVY", "LIceBridge$Word;", vr 9), ("IceBridge$Word", "WORTH", "LIceBridge$Word;", vr 10), ("IceBridge$Word", "FROST", "LIceBridge$Word;", vr 11), ("IceBridge$Word", "MELT", "LIceBridge$Word;", vr 12), ("IceBridge$Word", "SOUND", "LIceBridge$Word;", vr 13), ("IceBridge$Word", "FIRST", "LIceBridge$Word;", vr 14), ("IceBridge$Word", "MILD", "LIceBridge$Word;", vr 15), ("IceBridge$Word", "WEST_SIDE", "LIceBridge$Word;", vr 16), ("IceBridge$Word", "EAST_SIDE", "LIceBridge$Word;", vr 17), ("IceBridge$Word", "PLAIN", "LIceBridge$Word;", vr 18), ("IceBridge$Word", "LOVERS", "LIceBridge$Word;", vr 19), ("IceBridge$Word", "CHILDREN", "LIceBridge$Word;", vr 20), ("IceBridge$Word", "SMITHS", "LIceBridge$Word;", vr 21), ("IceBridge$Word", "FOOT", "LIceBridge$Word;", vr 22), ("IceBridge$Word", "HORSES", "LIceBridge$Word;", vr 23), ("IceBridge$Word", "SLEDGES", "LIceBridge$Word;", vr 24), ("IceBridge$Word", "HEARSE", "LIceBridge$Word;", vr 25), ("IceBridge$Word", "DANCE", "LIceBridge$Word;", vr 26), ("IceBridge$Word", "NOT", "LIceBridge$Word;", vr 27), ("IceBridge$Word", "AND", "LIceBridge$Word;", vr 28), ("IceBridge$Word", "OR", "LIceBridge$Word;", vr 29), ("IceBridge$Word", "HOUR", "LIceBridge$Word;", vr 30), ("IceBridge$Word", "NIGHT", "LIceBridge$Word;", vr 31), ("IceBridge$Word", "COLUMN", "LIceBridge$Word;", vr 32), ("IceBridge$Word", "ROW", "LIceBridge$Word;", vr 33), ("IceBridge$Word", "THICK", "LIceBridge$Word;", vr 34), ("IceBridge$Word", "WEAR", "LIceBridge$Word;", vr 35), ("IceBridge", "WORDS", "[LIceBridge$Word;", vr 36), ("IceBridge", "WEARS", "[I", vr 37), ("IceBridge", "LAW_FACTS", "[I", vr 38), ("IceBridge$1", "$SwitchMap$IceBridge$Word", "[I", vr 39), ("java/lang/String", "COMPACT_STRINGS", "Z", vi 1)]
def sid_p_t : List (Nat × List (Nat × Nat)) := [(2, [(83, 36)]),
  (5, [(38, 0), (81, 38), (122, 4), (138, 6), (148, 8), (151, 9), (164, 37), (209, 26), (218, 27), (221, 28)]),
  (6, [(58, 35)]),
  (14, [(38, 39)])]
def sid_p (own k : Nat) : Nat := match lk sid_p_t own with
  | some t => (lk t k).getD 0
  | none => 0
def sOK (own k : Nat) (v : AV) : Bool := match sTab[sid_p own k]? with
  | some q => decide (q.2.2.2 = v) && (decide (lw_tbl[sta_p own k]? = some (.fieldLink (oN own) k q.1 q.2.1 q.2.2.1)) || decide (lw_tbl[sta_p own k]? = some (.fieldLinkNest (oN own) k q.1 q.2.1 q.2.2.1 "IceBridge")))
  | none => false
theorem sta_ck : (sres_t.all fun o => o.2.all fun e => sOK o.1 e.1 e.2) = true := by decide +kernel
theorem sta_of {own k : Nat} {v : AV} (h : sres own k = some v) : sOK own k v = true := by
  unfold sres at h
  cases h1 : lk sres_t own with
  | none => rw [h1] at h; cases h
  | some tb =>
    rw [h1] at h
    exact all_of (all_of sta_ck (lk_mem _ h1)) (lk_mem _ h)
theorem prim_ck : lw_tbl[552]? = some (.static Lib.Math.min.name) ∧ lw_tbl[549]? = some (.static Lib.Math.max.name) ∧ lw_tbl[1058]? = some (.static Lib.Math.abs.name) ∧ lw_tbl[123]? = some (.initialized "java/lang/Math") ∧
  lw_tbl[553]? = some (.code Lib.Math.min.name Lib.Math.min.code 2 (some .int)) ∧ lw_tbl[550]? = some (.code Lib.Math.max.name Lib.Math.max.code 2 (some .int)) ∧ lw_tbl[1059]? = some (.code Lib.Math.abs.name Lib.Math.abs.code 1 (some .int)) ∧
  lw_tbl[749]? = some (.native arraycopyName) ∧ lw_tbl[748]? = some (.static arraycopyName) ∧ lw_tbl[130]? = some (.initialized "java/lang/System") ∧ lw_tbl[142]? = some (.instanceMethod objectInit) ∧ lw_tbl[143]? = some (.code objectInit ⟨#[0xb1]⟩ 1 none) := by decide +kernel
/-- a call's link: to a method of the table, or to one of the single members -/
def mLk (mode c : Nat) : MethodName := match mode with
  | 0 => objectInit
  | 3 => Lib.Math.min.name
  | 4 => Lib.Math.max.name
  | 5 => Lib.Math.abs.name
  | 6 => arraycopyName
  | 8 => ⟨"IceBridge$Word", "ordinal", "()I"⟩
  | _ => mN c
def mOK (own k : Nat) (q : Nat × Nat × Nat × Nat × Nat) : Bool :=
  (decide (lw_tbl[mth_p own k]? = some (.methodLink (oN own) k (mLk q.1 q.2.1))) || decide (lw_tbl[mth_p own k]? = some (.methodLinkNest (oN own) k (mLk q.1 q.2.1) "IceBridge"))) &&
  (match q.1 with
    | 1 => (mI q.2.1).2.2.1 && decide ((parseMethodDescriptor (mN q.2.1).desc).map (fun d => d.parameters.length) = some q.2.2.1)
    | 2 => !(mI q.2.1).2.2.1 && decide ((parseMethodDescriptor (mN q.2.1).desc).map (fun d => d.parameters.length + 1) = some q.2.2.1) && (decide (q.2.2.2.1 ≤ 9) || decide (q.2.2.2.1 = 23)) && decide ((mN q.2.1).cls = (bif decide (q.2.2.2.1 ≤ 9) then RC q.2.2.2.1 else "java/lang/String"))
    | 7 => decide (own = 10)
    | 8 => true
    | _ => decide (lw_tbl[mth_p own k]? = some (.methodLink (oN own) k (mLk q.1 q.2.1)))) &&
  (match q.1 with
    | 1 | 2 => (match q.2.2.2.2, mR q.2.1 with
      | 0, none => true
      | 1, some .int => true
      | 1, some .boolean => true
      | 1, some .byte => true
      | 3, some (.array .int) => true
      | _, _ => false)
    | _ => true)
set_option maxRecDepth 100000 in
theorem mth_ck : (mres_t.all fun o => o.2.all fun e => mOK o.1 e.1 e.2) = true := by decide +kernel
theorem mth_of {own k : Nat} {v : Nat × Nat × Nat × Nat × Nat} (h : mres own k = some v) : mOK own k v = true := by
  unfold mres at h
  cases h1 : lk mres_t own with
  | none => rw [h1] at h; cases h
  | some tb =>
    rw [h1] at h
    exact all_of (all_of mth_ck (lk_mem _ h1)) (lk_mem _ h)
