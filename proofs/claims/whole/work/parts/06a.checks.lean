/-! the tables of the pure machine hold against the tables' words: written by wip/whole/gen_checks.py -/
/-- the word at a place of lw_tbl, by its part -/
def gm_wd (p : Nat) : Option Jvm.Cond := if p < 105 then (k2_sels lw_privs)[p]? else if p < 345 then tables_1_1[p - 105]? else if p < 585 then tables_1_2[p - 345]? else if p < 825 then tables_1_3[p - 585]? else if p < 1065 then tables_1_4[p - 825]? else if p < 1305 then tables_1_5[p - 1065]? else if p < 1545 then tables_1_6[p - 1305]? else if p < 1785 then tables_1_7[p - 1545]? else if p < 1913 then tables_1_8[p - 1785]? else none
theorem gm_wd_in {p : Nat} {w : Jvm.Cond} (h : gm_wd p = some w) : w ∈ lw_tbl := by
  unfold gm_wd at h
  unfold lw_tbl tables_1
  simp only [List.mem_append]
  split at h
  · exact Or.inl (List.mem_of_getElem? h)
  split at h
  · exact Or.inr (Or.inl (List.mem_of_getElem? h))
  split at h
  · exact Or.inr (Or.inr (Or.inl (List.mem_of_getElem? h)))
  split at h
  · exact Or.inr (Or.inr (Or.inr (Or.inl (List.mem_of_getElem? h))))
  split at h
  · exact Or.inr (Or.inr (Or.inr (Or.inr (Or.inl (List.mem_of_getElem? h)))))
  split at h
  · exact Or.inr (Or.inr (Or.inr (Or.inr (Or.inr (Or.inl (List.mem_of_getElem? h))))))
  split at h
  · exact Or.inr (Or.inr (Or.inr (Or.inr (Or.inr (Or.inr (Or.inl (List.mem_of_getElem? h)))))))
  split at h
  · exact Or.inr (Or.inr (Or.inr (Or.inr (Or.inr (Or.inr (Or.inr (Or.inl (List.mem_of_getElem? h))))))))
  split at h
  · exact Or.inr (Or.inr (Or.inr (Or.inr (Or.inr (Or.inr (Or.inr (Or.inr (List.mem_of_getElem? h))))))))
  · cases h
def gm_nst (w : Jvm.Cond) : Bool := match w with
  | .fieldLinkNest .. => true
  | .methodLinkNest .. => true
  | _ => false
def gm_fyc (d : String) : Nat := match parseFieldDescriptor d with
  | some .int => 0
  | some .long => 1
  | some .boolean => 3
  | some (.object _) => 2
  | some (.array _) => 2
  | _ => 9
def gm_FTb (e : Nat × Nat × Nat × Nat × Nat × Nat) : Bool := match vwCl[e.2.2.2.1]?, gm_On[e.1]? with
  | some q, some on => decide (e.2.2.2.2.1 < q.2.2) && decide ((q.2.1 e.2.2.2.2.1).1 = q.1) && decide (gm_fy e.2.2.2.1 e.2.2.2.2.1 = gm_fyc (q.2.1 e.2.2.2.2.1).2.2.1) && decide ((gm_FY.getD e.2.2.2.1 []).length = q.2.2) &&
    (if e.2.2.1 = 0 then decide (gm_wd e.2.2.2.2.2 = some (Jvm.Cond.fieldLink on e.2.1 q.1 (q.2.1 e.2.2.2.2.1).2.1 (q.2.1 e.2.2.2.2.1).2.2.1)) else decide (gm_wd e.2.2.2.2.2 = some (Jvm.Cond.fieldLinkNest on e.2.1 q.1 (q.2.1 e.2.2.2.2.1).2.1 (q.2.1 e.2.2.2.2.1).2.2.1 "WorseSenate")))
  | _, _ => false
set_option maxRecDepth 100000 in
theorem gm_FT_ok : gm_FT.all gm_FTb = true := by decide +kernel
def gm_CTb (e : Nat × Nat × Nat × Nat × Nat × Nat × Nat) : Bool := match gm_MT[e.2.2.2.1]?, gm_On[e.1]? with
  | some N, some on => match e.2.2.1 with
    | 0 => decide ((gm_y N).cls ≠ "java/lang/Math") && decide (e.2.2.2.1 ≠ 304) && decide (gm_wd e.2.2.2.2.1 = some (Jvm.Cond.methodLink on e.2.1 (gm_y N))) && decide (gm_wd e.2.2.2.2.2.1 = some (Jvm.Cond.static (gm_y N)))
    | 1 => decide ((gm_y N).cls ≠ "java/lang/Math") && decide (e.2.2.2.1 ≠ 304) && decide (gm_wd e.2.2.2.2.1 = some (Jvm.Cond.methodLink on e.2.1 (gm_y N))) && decide (gm_wd e.2.2.2.2.2.1 = some (Jvm.Cond.instanceMethod (gm_y N))) && decide (gm_wd e.2.2.2.2.2.2 = some (Jvm.Cond.selects (gm_y N).cls (gm_y N) (gm_y N)))
    | 2 => decide ((gm_y N).cls ≠ "java/lang/Math") && decide (e.2.2.2.1 ≠ 304) && decide (gm_wd e.2.2.2.2.1 = some (Jvm.Cond.methodLink on e.2.1 (gm_y N))) && decide (gm_wd e.2.2.2.2.2.1 = some (Jvm.Cond.instanceMethod (gm_y N))) && decide ((gm_y N).name = "<init>") && decide (gm_ret N = none)
    | 3 => decide ((gm_y N).cls ≠ "java/lang/Math") && decide (e.2.2.2.1 ≠ 304) && decide (gm_wd e.2.2.2.2.1 = some (Jvm.Cond.methodLinkNest on e.2.1 (gm_y N) "WorseSenate")) && decide (gm_wd e.2.2.2.2.2.1 = some (Jvm.Cond.instanceMethod (gm_y N))) && decide ((gm_y N).name = "<init>") && decide (gm_ret N = none)
    | 4 => decide ((gm_y N).cls ≠ "java/lang/Math") && decide (e.2.2.2.1 ≠ 304) && decide (gm_wd e.2.2.2.2.1 = some (Jvm.Cond.methodLinkNest on e.2.1 (gm_y N) "WorseSenate")) && decide (gm_wd e.2.2.2.2.2.1 = some (Jvm.Cond.static (gm_y N)))
    | 6 => decide (gm_wd e.2.2.2.2.1 = some (Jvm.Cond.methodLink on e.2.1 objectInit)) && decide (gm_wd e.2.2.2.2.2.1 = some (Jvm.Cond.instanceMethod objectInit))
    | 11 => decide (gm_wd e.2.2.2.2.1 = some (Jvm.Cond.methodLink on e.2.1 Lib.Math.max.name)) && decide (gm_wd e.2.2.2.2.2.1 = some (Jvm.Cond.static Lib.Math.max.name))
    | 12 => decide (gm_wd e.2.2.2.2.1 = some (Jvm.Cond.methodLink on e.2.1 Lib.Math.min.name)) && decide (gm_wd e.2.2.2.2.2.1 = some (Jvm.Cond.static Lib.Math.min.name))
    | 7 => decide (gm_wd e.2.2.2.2.1 = some (Jvm.Cond.methodLink on e.2.1 arraycopyName)) && decide (gm_wd e.2.2.2.2.2.1 = some (Jvm.Cond.static arraycopyName))
    | _ => true
  | _, _ => false
set_option maxRecDepth 100000 in
theorem gm_CT_0 : ((gm_CT.drop 0).take 30).all gm_CTb = true := by decide +kernel
set_option maxRecDepth 100000 in
theorem gm_CT_30 : ((gm_CT.drop 30).take 30).all gm_CTb = true := by decide +kernel
set_option maxRecDepth 100000 in
theorem gm_CT_60 : ((gm_CT.drop 60).take 30).all gm_CTb = true := by decide +kernel
set_option maxRecDepth 100000 in
theorem gm_CT_90 : ((gm_CT.drop 90).take 30).all gm_CTb = true := by decide +kernel
set_option maxRecDepth 100000 in
theorem gm_CT_120 : ((gm_CT.drop 120).take 30).all gm_CTb = true := by decide +kernel
set_option maxRecDepth 100000 in
theorem gm_CT_150 : ((gm_CT.drop 150).take 30).all gm_CTb = true := by decide +kernel
set_option maxRecDepth 100000 in
theorem gm_CT_180 : ((gm_CT.drop 180).take 30).all gm_CTb = true := by decide +kernel
set_option maxRecDepth 100000 in
theorem gm_CT_210 : ((gm_CT.drop 210).take 30).all gm_CTb = true := by decide +kernel
set_option maxRecDepth 100000 in
theorem gm_CT_240 : ((gm_CT.drop 240).take 30).all gm_CTb = true := by decide +kernel
set_option maxRecDepth 100000 in
theorem gm_CT_270 : ((gm_CT.drop 270).take 30).all gm_CTb = true := by decide +kernel
set_option maxRecDepth 100000 in
theorem gm_CT_300 : ((gm_CT.drop 300).take 30).all gm_CTb = true := by decide +kernel
set_option maxRecDepth 100000 in
theorem gm_CT_330 : ((gm_CT.drop 330).take 30).all gm_CTb = true := by decide +kernel
set_option maxRecDepth 100000 in
theorem gm_CT_360 : ((gm_CT.drop 360).take 30).all gm_CTb = true := by decide +kernel
theorem gm_all_dt {α : Type} {l : List α} {p : α → Bool} {a b : Nat} (h1 : ((l.drop a).take b).all p = true) (h2 : (l.drop (a + b)).all p = true) : (l.drop a).all p = true := by
  rw [← List.take_append_drop b (l.drop a), List.all_append, h1, List.drop_drop, h2]
  rfl
theorem gm_CT_ok : gm_CT.all gm_CTb = true := by
  have h := (gm_all_dt (a := 0) gm_CT_0 (gm_all_dt gm_CT_30 (gm_all_dt gm_CT_60 (gm_all_dt gm_CT_90 (gm_all_dt gm_CT_120 (gm_all_dt gm_CT_150 (gm_all_dt gm_CT_180 (gm_all_dt gm_CT_210 (gm_all_dt gm_CT_240 (gm_all_dt gm_CT_270 (gm_all_dt gm_CT_300 (gm_all_dt gm_CT_330 (gm_all_dt gm_CT_360 (by rw [List.drop_eq_nil_of_le (by decide +kernel)]; rfl))))))))))))))
  exact h
/-- places of a method's code word and of its class' initialized word -/
def gm_MP : List (Nat × Nat) := [(460, 120), (996, 120), (1001, 120), (1013, 120), (1029, 120), (1062, 120), (1117, 120), (1037, 120), (1077, 120), (1024, 120), (1047, 120), (1033, 120), (1058, 120), (1066, 120), (1086, 120), (1092, 120), (1096, 120), (1101, 120), (1113, 120), (1121, 120), (1130, 120), (1141, 120), (1137, 120), (1186, 120), (1204, 120), (224, 113), (597, 113), (684, 113), (688, 113), (692, 113), (702, 113), (706, 113), (710, 113), (714, 113), (718, 113), (722, 113), (296, 116), (323, 116), (771, 116), (788, 116), (777, 116), (780, 116), (327, 116), (877, 116), (383, 118), (798, 118), (912, 118), (988, 118), (1241, 118), (1249, 118), (915, 118), (139, 107), (589, 107), (593, 107), (730, 107), (742, 107), (290, 115), (766, 115), (793, 115), (524, 115), (957, 115), (846, 115), (145, 108), (601, 108), (611, 108), (618, 108), (604, 108), (607, 108), (614, 108), (409, 119), (857, 119), (869, 119), (891, 119), (903, 119), (1006, 119), (962, 119), (873, 119), (372, 117), (520, 117), (814, 117), (528, 117), (532, 117), (818, 117), (823, 117), (826, 117), (967, 117), (1265, 117), (864, 117), (838, 117), (980, 117), (970, 125), (1016, 125), (1155, 125), (973, 125), (976, 125), (1152, 125), (1178, 125), (1163, 125), (1148, 125), (1160, 125), (1144, 125), (253, 114), (726, 114), (738, 114), (751, 114), (755, 114), (734, 114), (747, 114), (131, 106), (573, 106), (581, 106), (585, 106), (802, 106), (806, 106), (830, 106), (850, 106), (883, 106), (895, 106), (908, 106), (925, 106), (929, 106), (933, 106), (941, 106), (984, 106), (992, 106), (1020, 106), (1054, 106), (1082, 106), (1105, 106), (1109, 106), (1126, 106), (1167, 106), (1171, 106), (1175, 106), (1182, 106), (1191, 106), (1196, 106), (1200, 106), (1209, 106), (1213, 106), (1217, 106), (1232, 106), (1237, 106), (1245, 106), (1253, 106), (577, 106), (810, 106), (834, 106), (937, 106), (853, 106), (887, 106), (842, 106), (1257, 106), (1261, 106), (1273, 106), (1269, 106), (899, 106), (945, 106), (1221, 106), (1225, 106), (1228, 106), (1050, 106), (949, 106), (952, 106), (1278, 121), (1504, 121), (1508, 121), (1512, 121), (1524, 121), (1534, 121), (1531, 121), (1289, 121), (1286, 121), (1528, 121), (1520, 121), (1538, 121), (1542, 121), (1554, 121), (1562, 121), (1550, 121), (1566, 121), (1283, 121), (1516, 121), (1622, 121), (1618, 121), (1570, 121), (1546, 121), (1578, 121), (1582, 121), (1558, 121), (1574, 121), (1586, 121), (1590, 121), (1594, 121), (1614, 121), (1606, 121), (1610, 121), (1598, 121), (1602, 121), (1677, 121), (1633, 121), (1796, 121), (1630, 121), (1649, 121), (1729, 121), (1294, 121), (1298, 121), (1637, 121), (1748, 121), (1745, 121), (1641, 121), (1665, 121), (1669, 121), (1673, 121), (1661, 121), (1685, 121), (1689, 121), (1701, 121), (1697, 121), (1653, 121), (1757, 121), (1765, 121), (1761, 121), (1753, 121), (1769, 121), (1709, 121), (1741, 121), (1626, 121), (1645, 121), (1657, 121), (1681, 121), (1693, 121), (1713, 121), (1705, 121), (1717, 121), (1721, 121), (1733, 121), (1725, 121), (1737, 121), (1773, 121), (1777, 121), (1802, 121), (1799, 121), (1789, 121), (1793, 121), (1785, 121), (1781, 121), (1806, 121), (1818, 121), (1814, 121), (1810, 121), (1822, 121), (1834, 121), (1830, 121), (1826, 121), (1842, 121), (1838, 121), (1846, 121), (1850, 121), (1854, 121), (1862, 121), (1858, 121), (1866, 121), (1870, 121), (1874, 121), (1878, 121), (1882, 121), (1894, 121), (1890, 121), (1886, 121), (1898, 121), (1902, 121), (1906, 121), (1910, 121), (672, 123), (675, 123), (679, 123), (1041, 126), (1070, 126), (639, 122), (642, 122), (151, 109), (161, 109), (625, 109), (629, 109), (155, 109), (165, 109), (171, 109), (660, 109), (168, 110), (636, 110), (633, 110), (645, 110), (189, 112), (185, 112), (648, 112), (654, 112), (666, 112), (669, 112), (179, 112), (182, 112), (657, 112), (176, 111), (663, 111), (0, 0), (784, 116)]
def gm_MTb (q : gm_M × (Nat × Nat)) : Bool := decide (q.2.1 = 0) || (decide (gm_wd q.2.2 = some (Jvm.Cond.initialized (gm_y q.1).cls)) && (plainName (gm_y q.1).cls || decide ((gm_y q.1).cls = "java/lang/Math")) && decide ((gm_y q.1).cls ≠ "java/lang/invoke/MethodHandle") && decide ((gm_y q.1).cls ≠ "java/lang/invoke/VarHandle") && decide ((parseMethodDescriptor (gm_y q.1).desc).map (fun d => d.parameters.length) = some (gm_np q.1)) && decide (gm_On[gm_own q.1]? = some (gm_y q.1).cls))
set_option maxRecDepth 100000 in
theorem gm_MT_ok : (gm_MT.zip gm_MP).all gm_MTb = true := by decide +kernel
def gm_cdw (M : gm_M) : Prop := Jvm.Cond.code (gm_y M) (gm_b M) (gm_ml M) (gm_ret M) ∈ lw_tbl
set_option maxRecDepth 20000 in
theorem gm_cw0 : gm_wd 460 = some (Jvm.Cond.code yX0_init cX0_init 4 none) := rfl
set_option maxRecDepth 20000 in
theorem gm_cw1 : gm_wd 996 = some (Jvm.Cond.code yX0_gather cX0_gather 4 none) := rfl
set_option maxRecDepth 20000 in
theorem gm_cw2 : gm_wd 1001 = some (Jvm.Cond.code yX0_takeSpeech cX0_takeSpeech 2 none) := rfl
set_option maxRecDepth 20000 in
theorem gm_cw3 : gm_wd 1013 = some (Jvm.Cond.code yX0_asItIs cX0_asItIs 4 (some .long)) := rfl
set_option maxRecDepth 20000 in
theorem gm_cw4 : gm_wd 1029 = some (Jvm.Cond.code yX0_turnBySlip cX0_turnBySlip 2 none) := rfl
set_option maxRecDepth 20000 in
theorem gm_cw5 : gm_wd 1062 = some (Jvm.Cond.code yX0_turnByOath cX0_turnByOath 2 none) := rfl
set_option maxRecDepth 20000 in
theorem gm_cw6 : gm_wd 1117 = some (Jvm.Cond.code yX0_turnByMumble cX0_turnByMumble 2 none) := rfl
set_option maxRecDepth 20000 in
theorem gm_cw7 : gm_wd 1037 = some (Jvm.Cond.code yX0_fillBags cX0_fillBags 3 none) := rfl
set_option maxRecDepth 20000 in
theorem gm_cw8 : gm_wd 1077 = some (Jvm.Cond.code yX0_menOf cX0_menOf 4 (some .int)) := rfl
set_option maxRecDepth 20000 in
theorem gm_cw9 : gm_wd 1024 = some (Jvm.Cond.code yX0_weigh cX0_weigh 5 none) := rfl
set_option maxRecDepth 20000 in
theorem gm_cw10 : gm_wd 1047 = some (Jvm.Cond.code yX0_allChances cX0_allChances 3 (some .int)) := rfl
set_option maxRecDepth 20000 in
theorem gm_cw11 : gm_wd 1033 = some (Jvm.Cond.code yX0_chanceOf cX0_chanceOf 4 (some .int)) := rfl
set_option maxRecDepth 20000 in
theorem gm_cw12 : gm_wd 1058 = some (Jvm.Cond.code yX0_whoChanges cX0_whoChanges 4 (some .int)) := rfl
set_option maxRecDepth 20000 in
theorem gm_cw13 : gm_wd 1066 = some (Jvm.Cond.code yX0_maySwear cX0_maySwear 3 (some .boolean)) := rfl
set_option maxRecDepth 20000 in
theorem gm_cw14 : gm_wd 1086 = some (Jvm.Cond.code yX0_pickManners cX0_pickManners 5 (some .int)) := rfl
set_option maxRecDepth 20000 in
theorem gm_cw15 : gm_wd 1092 = some (Jvm.Cond.code yX0_gatherPickers cX0_gatherPickers 4 none) := rfl
set_option maxRecDepth 20000 in
theorem gm_cw16 : gm_wd 1096 = some (Jvm.Cond.code yX0_mannerIn cX0_mannerIn 3 (some .int)) := rfl
set_option maxRecDepth 20000 in
theorem gm_cw17 : gm_wd 1101 = some (Jvm.Cond.code yX0_pickedManner cX0_pickedManner 2 (some .int)) := rfl
set_option maxRecDepth 20000 in
theorem gm_cw18 : gm_wd 1113 = some (Jvm.Cond.code yX0_rest cX0_rest 5 (some .int)) := rfl
set_option maxRecDepth 20000 in
theorem gm_cw19 : gm_wd 1121 = some (Jvm.Cond.code yX0_isRest cX0_isRest 6 (some .boolean)) := rfl
set_option maxRecDepth 20000 in
theorem gm_cw20 : gm_wd 1130 = some (Jvm.Cond.code yX0_gatherJurors cX0_gatherJurors 6 none) := rfl
set_option maxRecDepth 20000 in
theorem gm_cw21 : gm_wd 1141 = some (Jvm.Cond.code yX0_bagOf cX0_bagOf 5 (some .long)) := rfl
set_option maxRecDepth 20000 in
theorem gm_cw22 : gm_wd 1137 = some (Jvm.Cond.code yX0_fairest cX0_fairest 6 (some .int)) := rfl
set_option maxRecDepth 20000 in
theorem gm_cw23 : gm_wd 1186 = some (Jvm.Cond.code yX0_harshest cX0_harshest 7 (some .int)) := rfl
set_option maxRecDepth 20000 in
theorem gm_cw24 : gm_wd 1204 = some (Jvm.Cond.code yX0_fallsBySeeds cX0_fallsBySeeds 9 (some .int)) := rfl
set_option maxRecDepth 20000 in
theorem gm_cw25 : gm_wd 224 = some (Jvm.Cond.code yX1_init cX1_init 1 none) := rfl
set_option maxRecDepth 20000 in
theorem gm_cw26 : gm_wd 597 = some (Jvm.Cond.code yX1_begin cX1_begin 2 none) := rfl
set_option maxRecDepth 20000 in
theorem gm_cw27 : gm_wd 684 = some (Jvm.Cond.code yX1_mayEnd cX1_mayEnd 1 (some .boolean)) := rfl
set_option maxRecDepth 20000 in
theorem gm_cw28 : gm_wd 688 = some (Jvm.Cond.code yX1_faultOf cX1_faultOf 2 (some .int)) := rfl
set_option maxRecDepth 20000 in
theorem gm_cw29 : gm_wd 692 = some (Jvm.Cond.code yX1_openTell cX1_openTell 2 (some .int)) := rfl
set_option maxRecDepth 20000 in
theorem gm_cw30 : gm_wd 702 = some (Jvm.Cond.code yX1_takeField cX1_takeField 2 (some .int)) := rfl
set_option maxRecDepth 20000 in
theorem gm_cw31 : gm_wd 706 = some (Jvm.Cond.code yX1_takeEquals cX1_takeEquals 2 (some .int)) := rfl
set_option maxRecDepth 20000 in
theorem gm_cw32 : gm_wd 710 = some (Jvm.Cond.code yX1_takeOperand cX1_takeOperand 2 (some .int)) := rfl
set_option maxRecDepth 20000 in
theorem gm_cw33 : gm_wd 714 = some (Jvm.Cond.code yX1_takeIf cX1_takeIf 1 (some .int)) := rfl
set_option maxRecDepth 20000 in
theorem gm_cw34 : gm_wd 718 = some (Jvm.Cond.code yX1_takeOperator cX1_takeOperator 2 (some .int)) := rfl
set_option maxRecDepth 20000 in
theorem gm_cw35 : gm_wd 722 = some (Jvm.Cond.code yX1_closeSection cX1_closeSection 2 (some .int)) := rfl
set_option maxRecDepth 20000 in
theorem gm_cw36 : gm_wd 296 = some (Jvm.Cond.code yX2_init cX2_init 1 none) := rfl
set_option maxRecDepth 20000 in
theorem gm_cw37 : gm_wd 323 = some (Jvm.Cond.code yX2_begin cX2_begin 1 none) := rfl
set_option maxRecDepth 20000 in
theorem gm_cw38 : gm_wd 771 = some (Jvm.Cond.code yX2_take cX2_take 7 none) := rfl
set_option maxRecDepth 20000 in
theorem gm_cw39 : gm_wd 788 = some (Jvm.Cond.code yX2_takeSign cX2_takeSign 2 none) := rfl
set_option maxRecDepth 20000 in
theorem gm_cw40 : gm_wd 777 = some (Jvm.Cond.code yX2_release cX2_release 2 none) := rfl
set_option maxRecDepth 20000 in
theorem gm_cw41 : gm_wd 780 = some (Jvm.Cond.code yX2_rank cX2_rank 1 (some .int)) := rfl
set_option maxRecDepth 20000 in
theorem gm_cw42 : gm_wd 327 = some (Jvm.Cond.code yX2_addStep cX2_addStep 3 none) := rfl
set_option maxRecDepth 20000 in
theorem gm_cw43 : gm_wd 877 = some (Jvm.Cond.code yX2_value cX2_value 8 (some .int)) := rfl
set_option maxRecDepth 20000 in
theorem gm_cw44 : gm_wd 383 = some (Jvm.Cond.code yX3_init cX3_init 1 none) := rfl
set_option maxRecDepth 20000 in
theorem gm_cw45 : gm_wd 798 = some (Jvm.Cond.code yX3_clear cX3_clear 1 none) := rfl
set_option maxRecDepth 20000 in
theorem gm_cw46 : gm_wd 912 = some (Jvm.Cond.code yX3_keep cX3_keep 2 none) := rfl
set_option maxRecDepth 20000 in
theorem gm_cw47 : gm_wd 988 = some (Jvm.Cond.code yX3_takeBack cX3_takeBack 2 (some .boolean)) := rfl
set_option maxRecDepth 20000 in
theorem gm_cw48 : gm_wd 1241 = some (Jvm.Cond.code yX3_putInSlot cX3_putInSlot 3 none) := rfl
set_option maxRecDepth 20000 in
theorem gm_cw49 : gm_wd 1249 = some (Jvm.Cond.code yX3_takeFromSlot cX3_takeFromSlot 3 (some .boolean)) := rfl
set_option maxRecDepth 20000 in
theorem gm_cw50 : gm_wd 915 = some (Jvm.Cond.code yX3_copyRow cX3_copyRow 2 none) := rfl
set_option maxRecDepth 20000 in
theorem gm_cw51 : gm_wd 139 = some (Jvm.Cond.code yX4_init cX4_init 1 none) := rfl
set_option maxRecDepth 20000 in
theorem gm_cw52 : gm_wd 589 = some (Jvm.Cond.code yX4_faultOf cX4_faultOf 4 (some .int)) := rfl
set_option maxRecDepth 20000 in
theorem gm_cw53 : gm_wd 593 = some (Jvm.Cond.code yX4_faultOfForm cX4_faultOfForm 6 (some .int)) := rfl
set_option maxRecDepth 20000 in
theorem gm_cw54 : gm_wd 730 = some (Jvm.Cond.code yX4_faultOfSense cX4_faultOfSense 7 (some .int)) := rfl
set_option maxRecDepth 20000 in
theorem gm_cw55 : gm_wd 742 = some (Jvm.Cond.code yX4_faultOfTell cX4_faultOfTell 7 (some .int)) := rfl
set_option maxRecDepth 20000 in
theorem gm_cw56 : gm_wd 290 = some (Jvm.Cond.code yX5_init cX5_init 1 none) := rfl
set_option maxRecDepth 20000 in
theorem gm_cw57 : gm_wd 766 = some (Jvm.Cond.code yX5_fill cX5_fill 4 none) := rfl
set_option maxRecDepth 20000 in
theorem gm_cw58 : gm_wd 793 = some (Jvm.Cond.code yX5_takeTell cX5_takeTell 5 none) := rfl
set_option maxRecDepth 20000 in
theorem gm_cw59 : gm_wd 524 = some (Jvm.Cond.code yX5_toldOf cX5_toldOf 3 (some .int)) := rfl
set_option maxRecDepth 20000 in
theorem gm_cw60 : gm_wd 957 = some (Jvm.Cond.code yX5_slipOf cX5_slipOf 2 (some .int)) := rfl
set_option maxRecDepth 20000 in
theorem gm_cw61 : gm_wd 846 = some (Jvm.Cond.code yX5_worthOf cX5_worthOf 3 (some .int)) := rfl
set_option maxRecDepth 20000 in
theorem gm_cw62 : gm_wd 145 = some (Jvm.Cond.code yX6_init cX6_init 5 none) := rfl
set_option maxRecDepth 20000 in
theorem gm_cw63 : gm_wd 601 = some (Jvm.Cond.code yX6_step cX6_step 4 none) := rfl
set_option maxRecDepth 20000 in
theorem gm_cw64 : gm_wd 611 = some (Jvm.Cond.code yX6_takeLetters cX6_takeLetters 4 none) := rfl
set_option maxRecDepth 20000 in
theorem gm_cw65 : gm_wd 618 = some (Jvm.Cond.code yX6_takeDigits cX6_takeDigits 3 none) := rfl
set_option maxRecDepth 20000 in
theorem gm_cw66 : gm_wd 604 = some (Jvm.Cond.code yX6_isBlank cX6_isBlank 1 (some .boolean)) := rfl
set_option maxRecDepth 20000 in
theorem gm_cw67 : gm_wd 607 = some (Jvm.Cond.code yX6_isLetter cX6_isLetter 1 (some .boolean)) := rfl
set_option maxRecDepth 20000 in
theorem gm_cw68 : gm_wd 614 = some (Jvm.Cond.code yX6_isDigit cX6_isDigit 1 (some .boolean)) := rfl
set_option maxRecDepth 20000 in
theorem gm_cw69 : gm_wd 409 = some (Jvm.Cond.code yX7_init cX7_init 2 none) := rfl
set_option maxRecDepth 20000 in
theorem gm_cw70 : gm_wd 857 = some (Jvm.Cond.code yX7_take cX7_take 3 none) := rfl
set_option maxRecDepth 20000 in
theorem gm_cw71 : gm_wd 869 = some (Jvm.Cond.code yX7_goodness cX7_goodness 1 (some .int)) := rfl
set_option maxRecDepth 20000 in
theorem gm_cw72 : gm_wd 891 = some (Jvm.Cond.code yX7_markBy cX7_markBy 4 (some .int)) := rfl
set_option maxRecDepth 20000 in
theorem gm_cw73 : gm_wd 903 = some (Jvm.Cond.code yX7_totalAs cX7_totalAs 4 (some .int)) := rfl
set_option maxRecDepth 20000 in
theorem gm_cw74 : gm_wd 1006 = some (Jvm.Cond.code yX7_entry cX7_entry 1 (some .long)) := rfl
set_option maxRecDepth 20000 in
theorem gm_cw75 : gm_wd 962 = some (Jvm.Cond.code yX7_fineFor cX7_fineFor 2 (some .int)) := rfl
set_option maxRecDepth 20000 in
theorem gm_cw76 : gm_wd 873 = some (Jvm.Cond.code yX7_setVars cX7_setVars 5 none) := rfl
set_option maxRecDepth 20000 in
theorem gm_cw77 : gm_wd 372 = some (Jvm.Cond.code yX8_init cX8_init 1 none) := rfl
set_option maxRecDepth 20000 in
theorem gm_cw78 : gm_wd 520 = some (Jvm.Cond.code yX8_begin cX8_begin 3 none) := rfl
set_option maxRecDepth 20000 in
theorem gm_cw79 : gm_wd 814 = some (Jvm.Cond.code yX8_get cX8_get 3 (some .int)) := rfl
set_option maxRecDepth 20000 in
theorem gm_cw80 : gm_wd 528 = some (Jvm.Cond.code yX8_set cX8_set 4 none) := rfl
set_option maxRecDepth 20000 in
theorem gm_cw81 : gm_wd 532 = some (Jvm.Cond.code yX8_hush cX8_hush 2 none) := rfl
set_option maxRecDepth 20000 in
theorem gm_cw82 : gm_wd 818 = some (Jvm.Cond.code yX8_isSworn cX8_isSworn 2 (some .boolean)) := rfl
set_option maxRecDepth 20000 in
theorem gm_cw83 : gm_wd 823 = some (Jvm.Cond.code yX8_pleadsFor cX8_pleadsFor 4 (some .int)) := rfl
set_option maxRecDepth 20000 in
theorem gm_cw84 : gm_wd 826 = some (Jvm.Cond.code yX8_behind cX8_behind 2 (some .int)) := rfl
set_option maxRecDepth 20000 in
theorem gm_cw85 : gm_wd 967 = some (Jvm.Cond.code yX8_pay cX8_pay 3 none) := rfl
set_option maxRecDepth 20000 in
theorem gm_cw86 : gm_wd 1265 = some (Jvm.Cond.code yX8_paid cX8_paid 1 (some .int)) := rfl
set_option maxRecDepth 20000 in
theorem gm_cw87 : gm_wd 864 = some (Jvm.Cond.code yX8_day cX8_day 1 (some .int)) := rfl
set_option maxRecDepth 20000 in
theorem gm_cw88 : gm_wd 838 = some (Jvm.Cond.code yX8_fellTo cX8_fellTo 2 (some .int)) := rfl
set_option maxRecDepth 20000 in
theorem gm_cw89 : gm_wd 980 = some (Jvm.Cond.code yX8_fall cX8_fall 3 none) := rfl
set_option maxRecDepth 20000 in
theorem gm_cw90 : gm_wd 970 = some (Jvm.Cond.code yX9_part cX9_part 2 (some .long)) := rfl
set_option maxRecDepth 20000 in
theorem gm_cw91 : gm_wd 1016 = some (Jvm.Cond.code yX9_total cX9_total 3 (some .int)) := rfl
set_option maxRecDepth 20000 in
theorem gm_cw92 : gm_wd 1155 = some (Jvm.Cond.code yX9_speeches cX9_speeches 3 (some .int)) := rfl
set_option maxRecDepth 20000 in
theorem gm_cw93 : gm_wd 973 = some (Jvm.Cond.code yX9_winner cX9_winner 2 (some .int)) := rfl
set_option maxRecDepth 20000 in
theorem gm_cw94 : gm_wd 976 = some (Jvm.Cond.code yX9_greatestBut cX9_greatestBut 10 (some .int)) := rfl
set_option maxRecDepth 20000 in
theorem gm_cw95 : gm_wd 1152 = some (Jvm.Cond.code yX9_over cX9_over 4 (some .int)) := rfl
set_option maxRecDepth 20000 in
theorem gm_cw96 : gm_wd 1178 = some (Jvm.Cond.code yX9_lead cX9_lead 4 (some .int)) := rfl
set_option maxRecDepth 20000 in
theorem gm_cw97 : gm_wd 1163 = some (Jvm.Cond.code yX9_hundredfold cX9_hundredfold 5 (some .int)) := rfl
set_option maxRecDepth 20000 in
theorem gm_cw98 : gm_wd 1148 = some (Jvm.Cond.code yX9_least cX9_least 4 (some .int)) := rfl
set_option maxRecDepth 20000 in
theorem gm_cw99 : gm_wd 1160 = some (Jvm.Cond.code yX9_apart cX9_apart 4 (some .int)) := rfl
set_option maxRecDepth 20000 in
theorem gm_cw100 : gm_wd 1144 = some (Jvm.Cond.code yX9_apartExactly cX9_apartExactly 8 (some .int)) := rfl
set_option maxRecDepth 20000 in
theorem gm_cw101 : gm_wd 253 = some (Jvm.Cond.code yX10_init cX10_init 1 none) := rfl
set_option maxRecDepth 20000 in
theorem gm_cw102 : gm_wd 726 = some (Jvm.Cond.code yX10_add cX10_add 5 none) := rfl
set_option maxRecDepth 20000 in
theorem gm_cw103 : gm_wd 738 = some (Jvm.Cond.code yX10_kindAt cX10_kindAt 2 (some .int)) := rfl
set_option maxRecDepth 20000 in
theorem gm_cw104 : gm_wd 751 = some (Jvm.Cond.code yX10_valueAt cX10_valueAt 2 (some .long)) := rfl
set_option maxRecDepth 20000 in
theorem gm_cw105 : gm_wd 755 = some (Jvm.Cond.code yX10_placeAt cX10_placeAt 2 (some .int)) := rfl
set_option maxRecDepth 20000 in
theorem gm_cw106 : gm_wd 734 = some (Jvm.Cond.code yX10_tellAt cX10_tellAt 2 (some .int)) := rfl
set_option maxRecDepth 20000 in
theorem gm_cw107 : gm_wd 747 = some (Jvm.Cond.code yX10_isNameTwice cX10_isNameTwice 3 (some .boolean)) := rfl
set_option maxRecDepth 20000 in
theorem gm_cw108 : gm_wd 131 = some (Jvm.Cond.code yX11_init cX11_init 1 none) := rfl
set_option maxRecDepth 20000 in
theorem gm_cw109 : gm_wd 573 = some (Jvm.Cond.code yX11_feed cX11_feed 6 (some .int)) := rfl
set_option maxRecDepth 20000 in
theorem gm_cw110 : gm_wd 581 = some (Jvm.Cond.code yX11_back cX11_back 2 (some .int)) := rfl
set_option maxRecDepth 20000 in
theorem gm_cw111 : gm_wd 585 = some (Jvm.Cond.code yX11_read cX11_read 2 (some .int)) := rfl
set_option maxRecDepth 20000 in
theorem gm_cw112 : gm_wd 802 = some (Jvm.Cond.code yX11_place cX11_place 1 (some .int)) := rfl
set_option maxRecDepth 20000 in
theorem gm_cw113 : gm_wd 806 = some (Jvm.Cond.code yX11_man cX11_man 3 (some .int)) := rfl
set_option maxRecDepth 20000 in
theorem gm_cw114 : gm_wd 830 = some (Jvm.Cond.code yX11_motion cX11_motion 3 (some .int)) := rfl
set_option maxRecDepth 20000 in
theorem gm_cw115 : gm_wd 850 = some (Jvm.Cond.code yX11_argues cX11_argues 4 (some .int)) := rfl
set_option maxRecDepth 20000 in
theorem gm_cw116 : gm_wd 883 = some (Jvm.Cond.code yX11_mark cX11_mark 4 (some .int)) := rfl
set_option maxRecDepth 20000 in
theorem gm_cw117 : gm_wd 895 = some (Jvm.Cond.code yX11_sum cX11_sum 3 (some .int)) := rfl
set_option maxRecDepth 20000 in
theorem gm_cw118 : gm_wd 908 = some (Jvm.Cond.code yX11_speak cX11_speak 4 (some .boolean)) := rfl
set_option maxRecDepth 20000 in
theorem gm_cw119 : gm_wd 925 = some (Jvm.Cond.code yX11_praise cX11_praise 3 (some .int)) := rfl
set_option maxRecDepth 20000 in
theorem gm_cw120 : gm_wd 929 = some (Jvm.Cond.code yX11_reads cX11_reads 5 (some .int)) := rfl
set_option maxRecDepth 20000 in
theorem gm_cw121 : gm_wd 933 = some (Jvm.Cond.code yX11_swear cX11_swear 3 (some .boolean)) := rfl
set_option maxRecDepth 20000 in
theorem gm_cw122 : gm_wd 941 = some (Jvm.Cond.code yX11_session cX11_session 5 (some .int)) := rfl
set_option maxRecDepth 20000 in
theorem gm_cw123 : gm_wd 984 = some (Jvm.Cond.code yX11_undo cX11_undo 1 (some .boolean)) := rfl
set_option maxRecDepth 20000 in
theorem gm_cw124 : gm_wd 992 = some (Jvm.Cond.code yX11_now cX11_now 5 (some .int)) := rfl
set_option maxRecDepth 20000 in
theorem gm_cw125 : gm_wd 1020 = some (Jvm.Cond.code yX11_likely cX11_likely 4 (some .int)) := rfl
set_option maxRecDepth 20000 in
theorem gm_cw126 : gm_wd 1054 = some (Jvm.Cond.code yX11_change cX11_change 5 (some .int)) := rfl
set_option maxRecDepth 20000 in
theorem gm_cw127 : gm_wd 1082 = some (Jvm.Cond.code yX11_choose cX11_choose 4 (some .int)) := rfl
set_option maxRecDepth 20000 in
theorem gm_cw128 : gm_wd 1105 = some (Jvm.Cond.code yX11_chosen cX11_chosen 5 (some .int)) := rfl
set_option maxRecDepth 20000 in
theorem gm_cw129 : gm_wd 1109 = some (Jvm.Cond.code yX11_mumble cX11_mumble 3 (some .int)) := rfl
set_option maxRecDepth 20000 in
theorem gm_cw130 : gm_wd 1126 = some (Jvm.Cond.code yX11_jury cX11_jury 5 (some .int)) := rfl
set_option maxRecDepth 20000 in
theorem gm_cw131 : gm_wd 1167 = some (Jvm.Cond.code yX11_say cX11_say 4 (some .int)) := rfl
set_option maxRecDepth 20000 in
theorem gm_cw132 : gm_wd 1171 = some (Jvm.Cond.code yX11_fine cX11_fine 4 (some .int)) := rfl
set_option maxRecDepth 20000 in
theorem gm_cw133 : gm_wd 1175 = some (Jvm.Cond.code yX11_ahead cX11_ahead 2 (some .int)) := rfl
set_option maxRecDepth 20000 in
theorem gm_cw134 : gm_wd 1182 = some (Jvm.Cond.code yX11_harsh cX11_harsh 3 (some .int)) := rfl
set_option maxRecDepth 20000 in
theorem gm_cw135 : gm_wd 1191 = some (Jvm.Cond.code yX11_praiseFor cX11_praiseFor 8 (some .int)) := rfl
set_option maxRecDepth 20000 in
theorem gm_cw136 : gm_wd 1196 = some (Jvm.Cond.code yX11_old cX11_old 5 (some .int)) := rfl
set_option maxRecDepth 20000 in
theorem gm_cw137 : gm_wd 1200 = some (Jvm.Cond.code yX11_year cX11_year 6 (some .int)) := rfl
set_option maxRecDepth 20000 in
theorem gm_cw138 : gm_wd 1209 = some (Jvm.Cond.code yX11_tell cX11_tell 3 (some .int)) := rfl
set_option maxRecDepth 20000 in
theorem gm_cw139 : gm_wd 1213 = some (Jvm.Cond.code yX11_forget cX11_forget 2 (some .int)) := rfl
set_option maxRecDepth 20000 in
theorem gm_cw140 : gm_wd 1217 = some (Jvm.Cond.code yX11_slipped cX11_slipped 8 (some .int)) := rfl
set_option maxRecDepth 20000 in
theorem gm_cw141 : gm_wd 1232 = some (Jvm.Cond.code yX11_thinks cX11_thinks 6 (some .int)) := rfl
set_option maxRecDepth 20000 in
theorem gm_cw142 : gm_wd 1237 = some (Jvm.Cond.code yX11_hold cX11_hold 2 (some .boolean)) := rfl
set_option maxRecDepth 20000 in
theorem gm_cw143 : gm_wd 1245 = some (Jvm.Cond.code yX11_restore cX11_restore 2 (some .boolean)) := rfl
set_option maxRecDepth 20000 in
theorem gm_cw144 : gm_wd 1253 = some (Jvm.Cond.code yX11_count cX11_count 2 (some .int)) := rfl
set_option maxRecDepth 20000 in
theorem gm_cw145 : gm_wd 577 = some (Jvm.Cond.code yX11_putBytes cX11_putBytes 3 none) := rfl
set_option maxRecDepth 20000 in
theorem gm_cw146 : gm_wd 810 = some (Jvm.Cond.code yX11_isMan cX11_isMan 2 (some .boolean)) := rfl
set_option maxRecDepth 20000 in
theorem gm_cw147 : gm_wd 834 = some (Jvm.Cond.code yX11_isMotion cX11_isMotion 2 (some .boolean)) := rfl
set_option maxRecDepth 20000 in
theorem gm_cw148 : gm_wd 937 = some (Jvm.Cond.code yX11_isSide cX11_isSide 2 (some .boolean)) := rfl
set_option maxRecDepth 20000 in
theorem gm_cw149 : gm_wd 853 = some (Jvm.Cond.code yX11_isManner cX11_isManner 1 (some .boolean)) := rfl
set_option maxRecDepth 20000 in
theorem gm_cw150 : gm_wd 887 = some (Jvm.Cond.code yX11_isSilent cX11_isSilent 2 (some .boolean)) := rfl
set_option maxRecDepth 20000 in
theorem gm_cw151 : gm_wd 842 = some (Jvm.Cond.code yX11_speakersOn cX11_speakersOn 4 (some .int)) := rfl
set_option maxRecDepth 20000 in
theorem gm_cw152 : gm_wd 1257 = some (Jvm.Cond.code yX11_fallenMotions cX11_fallenMotions 3 (some .int)) := rfl
set_option maxRecDepth 20000 in
theorem gm_cw153 : gm_wd 1261 = some (Jvm.Cond.code yX11_swornMen cX11_swornMen 3 (some .int)) := rfl
set_option maxRecDepth 20000 in
theorem gm_cw154 : gm_wd 1273 = some (Jvm.Cond.code yX11_menWithSpeech cX11_menWithSpeech 3 (some .int)) := rfl
set_option maxRecDepth 20000 in
theorem gm_cw155 : gm_wd 1269 = some (Jvm.Cond.code yX11_overAll cX11_overAll 4 (some .int)) := rfl
set_option maxRecDepth 20000 in
theorem gm_cw156 : gm_wd 899 = some (Jvm.Cond.code yX11_totalOf cX11_totalOf 3 (some .int)) := rfl
set_option maxRecDepth 20000 in
theorem gm_cw157 : gm_wd 945 = some (Jvm.Cond.code yX11_hear cX11_hear 6 (some .long)) := rfl
set_option maxRecDepth 20000 in
theorem gm_cw158 : gm_wd 1221 = some (Jvm.Cond.code yX11_isKnown cX11_isKnown 4 (some .boolean)) := rfl
set_option maxRecDepth 20000 in
theorem gm_cw159 : gm_wd 1225 = some (Jvm.Cond.code yX11_isAsTold cX11_isAsTold 5 (some .boolean)) := rfl
set_option maxRecDepth 20000 in
theorem gm_cw160 : gm_wd 1228 = some (Jvm.Cond.code yX11_setBetween cX11_setBetween 5 (some .int)) := rfl
set_option maxRecDepth 20000 in
theorem gm_cw161 : gm_wd 1050 = some (Jvm.Cond.code yX11_lessened cX11_lessened 7 (some .int)) := rfl
set_option maxRecDepth 20000 in
theorem gm_cw162 : gm_wd 949 = some (Jvm.Cond.code yX11_lotOfTen cX11_lotOfTen 3 (some .int)) := rfl
set_option maxRecDepth 20000 in
theorem gm_cw163 : gm_wd 952 = some (Jvm.Cond.code yX11_stirred cX11_stirred 3 (some .int)) := rfl
set_option maxRecDepth 20000 in
theorem gm_cw164 : gm_wd 1278 = some (Jvm.Cond.code yX12_init cX12_init 1 none) := rfl
set_option maxRecDepth 20000 in
theorem gm_cw165 : gm_wd 1504 = some (Jvm.Cond.code yX12_feed cX12_feed 6 (some .int)) := rfl
set_option maxRecDepth 20000 in
theorem gm_cw166 : gm_wd 1508 = some (Jvm.Cond.code yX12_put cX12_put 3 none) := rfl
set_option maxRecDepth 20000 in
theorem gm_cw167 : gm_wd 1512 = some (Jvm.Cond.code yX12_back cX12_back 2 (some .int)) := rfl
set_option maxRecDepth 20000 in
theorem gm_cw168 : gm_wd 1524 = some (Jvm.Cond.code yX12_byteAt cX12_byteAt 2 (some .int)) := rfl
set_option maxRecDepth 20000 in
theorem gm_cw169 : gm_wd 1534 = some (Jvm.Cond.code yX12_isDigit cX12_isDigit 1 (some .boolean)) := rfl
set_option maxRecDepth 20000 in
theorem gm_cw170 : gm_wd 1531 = some (Jvm.Cond.code yX12_isLetter cX12_isLetter 1 (some .boolean)) := rfl
set_option maxRecDepth 20000 in
theorem gm_cw171 : gm_wd 1289 = some (Jvm.Cond.code yX12_appends cX12_appends 3 (some .long)) := rfl
set_option maxRecDepth 20000 in
theorem gm_cw172 : gm_wd 1286 = some (Jvm.Cond.code yX12_word cX12_word 7 (some .long)) := rfl
set_option maxRecDepth 20000 in
theorem gm_cw173 : gm_wd 1528 = some (Jvm.Cond.code yX12_token cX12_token 6 none) := rfl
set_option maxRecDepth 20000 in
theorem gm_cw174 : gm_wd 1520 = some (Jvm.Cond.code yX12_cut cX12_cut 8 none) := rfl
set_option maxRecDepth 20000 in
theorem gm_cw175 : gm_wd 1538 = some (Jvm.Cond.code yX12_sign cX12_sign 5 (some .int)) := rfl
set_option maxRecDepth 20000 in
theorem gm_cw176 : gm_wd 1542 = some (Jvm.Cond.code yX12_is cX12_is 2 (some .boolean)) := rfl
set_option maxRecDepth 20000 in
theorem gm_cw177 : gm_wd 1554 = some (Jvm.Cond.code yX12_fail cX12_fail 2 none) := rfl
set_option maxRecDepth 20000 in
theorem gm_cw178 : gm_wd 1562 = some (Jvm.Cond.code yX12_wrong cX12_wrong 4 none) := rfl
set_option maxRecDepth 20000 in
theorem gm_cw179 : gm_wd 1550 = some (Jvm.Cond.code yX12_goesOn cX12_goesOn 1 none) := rfl
set_option maxRecDepth 20000 in
theorem gm_cw180 : gm_wd 1566 = some (Jvm.Cond.code yX12_must cX12_must 2 none) := rfl
set_option maxRecDepth 20000 in
theorem gm_cw181 : gm_wd 1283 = some (Jvm.Cond.code yX12_plain cX12_plain 3 none) := rfl
set_option maxRecDepth 20000 in
theorem gm_cw182 : gm_wd 1516 = some (Jvm.Cond.code yX12_read cX12_read 2 (some .int)) := rfl
set_option maxRecDepth 20000 in
theorem gm_cw183 : gm_wd 1622 = some (Jvm.Cond.code yX12_place cX12_place 1 (some .int)) := rfl
set_option maxRecDepth 20000 in
theorem gm_cw184 : gm_wd 1618 = some (Jvm.Cond.code yX12_areSides cX12_areSides 2 (some .boolean)) := rfl
set_option maxRecDepth 20000 in
theorem gm_cw185 : gm_wd 1570 = some (Jvm.Cond.code yX12_roomFor cX12_roomFor 3 none) := rfl
set_option maxRecDepth 20000 in
theorem gm_cw186 : gm_wd 1546 = some (Jvm.Cond.code yX12_tellOne cX12_tellOne 2 none) := rfl
set_option maxRecDepth 20000 in
theorem gm_cw187 : gm_wd 1578 = some (Jvm.Cond.code yX12_named cX12_named 3 (some .int)) := rfl
set_option maxRecDepth 20000 in
theorem gm_cw188 : gm_wd 1582 = some (Jvm.Cond.code yX12_ends cX12_ends 2 none) := rfl
set_option maxRecDepth 20000 in
theorem gm_cw189 : gm_wd 1558 = some (Jvm.Cond.code yX12_bounded cX12_bounded 4 (some .int)) := rfl
set_option maxRecDepth 20000 in
theorem gm_cw190 : gm_wd 1574 = some (Jvm.Cond.code yX12_tellMan cX12_tellMan 3 none) := rfl
set_option maxRecDepth 20000 in
theorem gm_cw191 : gm_wd 1586 = some (Jvm.Cond.code yX12_tellMotion cX12_tellMotion 4 none) := rfl
set_option maxRecDepth 20000 in
theorem gm_cw192 : gm_wd 1590 = some (Jvm.Cond.code yX12_tellJuror cX12_tellJuror 2 none) := rfl
set_option maxRecDepth 20000 in
theorem gm_cw193 : gm_wd 1594 = some (Jvm.Cond.code yX12_tellLaw cX12_tellLaw 4 none) := rfl
set_option maxRecDepth 20000 in
theorem gm_cw194 : gm_wd 1614 = some (Jvm.Cond.code yX12_term cX12_term 1 none) := rfl
set_option maxRecDepth 20000 in
theorem gm_cw195 : gm_wd 1606 = some (Jvm.Cond.code yX12_emit cX12_emit 3 none) := rfl
set_option maxRecDepth 20000 in
theorem gm_cw196 : gm_wd 1610 = some (Jvm.Cond.code yX12_comesOut cX12_comesOut 3 none) := rfl
set_option maxRecDepth 20000 in
theorem gm_cw197 : gm_wd 1598 = some (Jvm.Cond.code yX12_expression cX12_expression 3 none) := rfl
set_option maxRecDepth 20000 in
theorem gm_cw198 : gm_wd 1602 = some (Jvm.Cond.code yX12_unit cX12_unit 1 none) := rfl
set_option maxRecDepth 20000 in
theorem gm_cw199 : gm_wd 1677 = some (Jvm.Cond.code yX12_termOf cX12_termOf 8 (some .int)) := rfl
set_option maxRecDepth 20000 in
theorem gm_cw200 : gm_wd 1633 = some (Jvm.Cond.code yX12_in cX12_in 3 (some .boolean)) := rfl
set_option maxRecDepth 20000 in
theorem gm_cw201 : gm_wd 1796 = some (Jvm.Cond.code yX12_bits cX12_bits 3 (some .int)) := rfl
set_option maxRecDepth 20000 in
theorem gm_cw202 : gm_wd 1630 = some (Jvm.Cond.code yX12_isMan cX12_isMan 2 (some .boolean)) := rfl
set_option maxRecDepth 20000 in
theorem gm_cw203 : gm_wd 1649 = some (Jvm.Cond.code yX12_isMotion cX12_isMotion 2 (some .boolean)) := rfl
set_option maxRecDepth 20000 in
theorem gm_cw204 : gm_wd 1729 = some (Jvm.Cond.code yX12_isSide cX12_isSide 2 (some .boolean)) := rfl
set_option maxRecDepth 20000 in
theorem gm_cw205 : gm_wd 1294 = some (Jvm.Cond.code yX12_begins cX12_begins 2 none) := rfl
set_option maxRecDepth 20000 in
theorem gm_cw206 : gm_wd 1298 = some (Jvm.Cond.code yX12_keepsRow cX12_keepsRow 2 none) := rfl
set_option maxRecDepth 20000 in
theorem gm_cw207 : gm_wd 1637 = some (Jvm.Cond.code yX12_copies cX12_copies 2 none) := rfl
set_option maxRecDepth 20000 in
theorem gm_cw208 : gm_wd 1748 = some (Jvm.Cond.code yX12_mixed cX12_mixed 3 (some .int)) := rfl
set_option maxRecDepth 20000 in
theorem gm_cw209 : gm_wd 1745 = some (Jvm.Cond.code yX12_slips cX12_slips 2 (some .boolean)) := rfl
set_option maxRecDepth 20000 in
theorem gm_cw210 : gm_wd 1641 = some (Jvm.Cond.code yX12_pleadsFor cX12_pleadsFor 2 (some .int)) := rfl
set_option maxRecDepth 20000 in
theorem gm_cw211 : gm_wd 1665 = some (Jvm.Cond.code yX12_looks cX12_looks 4 none) := rfl
set_option maxRecDepth 20000 in
theorem gm_cw212 : gm_wd 1669 = some (Jvm.Cond.code yX12_asks cX12_asks 7 (some .int)) := rfl
set_option maxRecDepth 20000 in
theorem gm_cw213 : gm_wd 1673 = some (Jvm.Cond.code yX12_lawTells cX12_lawTells 5 (some .int)) := rfl
set_option maxRecDepth 20000 in
theorem gm_cw214 : gm_wd 1661 = some (Jvm.Cond.code yX12_goodOf cX12_goodOf 4 (some .int)) := rfl
set_option maxRecDepth 20000 in
theorem gm_cw215 : gm_wd 1685 = some (Jvm.Cond.code yX12_goodNow cX12_goodNow 3 (some .int)) := rfl
set_option maxRecDepth 20000 in
theorem gm_cw216 : gm_wd 1689 = some (Jvm.Cond.code yX12_markBy cX12_markBy 7 (some .int)) := rfl
set_option maxRecDepth 20000 in
theorem gm_cw217 : gm_wd 1701 = some (Jvm.Cond.code yX12_sumBy cX12_sumBy 8 (some .int)) := rfl
set_option maxRecDepth 20000 in
theorem gm_cw218 : gm_wd 1697 = some (Jvm.Cond.code yX12_sumNow cX12_sumNow 3 (some .int)) := rfl
set_option maxRecDepth 20000 in
theorem gm_cw219 : gm_wd 1653 = some (Jvm.Cond.code yX12_speakers cX12_speakers 4 (some .int)) := rfl
set_option maxRecDepth 20000 in
theorem gm_cw220 : gm_wd 1757 = some (Jvm.Cond.code yX12_fillsSums cX12_fillsSums 7 none) := rfl
set_option maxRecDepth 20000 in
theorem gm_cw221 : gm_wd 1765 = some (Jvm.Cond.code yX12_meanOf cX12_meanOf 2 (some .int)) := rfl
set_option maxRecDepth 20000 in
theorem gm_cw222 : gm_wd 1761 = some (Jvm.Cond.code yX12_bestSide cX12_bestSide 3 (some .int)) := rfl
set_option maxRecDepth 20000 in
theorem gm_cw223 : gm_wd 1753 = some (Jvm.Cond.code yX12_fallsTo cX12_fallsTo 3 (some .int)) := rfl
set_option maxRecDepth 20000 in
theorem gm_cw224 : gm_wd 1769 = some (Jvm.Cond.code yX12_fineOf cX12_fineOf 5 (some .int)) := rfl
set_option maxRecDepth 20000 in
theorem gm_cw225 : gm_wd 1709 = some (Jvm.Cond.code yX12_silences cX12_silences 2 none) := rfl
set_option maxRecDepth 20000 in
theorem gm_cw226 : gm_wd 1741 = some (Jvm.Cond.code yX12_sits cX12_sits 8 (some .int)) := rfl
set_option maxRecDepth 20000 in
theorem gm_cw227 : gm_wd 1626 = some (Jvm.Cond.code yX12_man cX12_man 3 (some .int)) := rfl
set_option maxRecDepth 20000 in
theorem gm_cw228 : gm_wd 1645 = some (Jvm.Cond.code yX12_motion cX12_motion 3 (some .int)) := rfl
set_option maxRecDepth 20000 in
theorem gm_cw229 : gm_wd 1657 = some (Jvm.Cond.code yX12_argues cX12_argues 4 (some .int)) := rfl
set_option maxRecDepth 20000 in
theorem gm_cw230 : gm_wd 1681 = some (Jvm.Cond.code yX12_mark cX12_mark 4 (some .int)) := rfl
set_option maxRecDepth 20000 in
theorem gm_cw231 : gm_wd 1693 = some (Jvm.Cond.code yX12_sum cX12_sum 3 (some .int)) := rfl
set_option maxRecDepth 20000 in
theorem gm_cw232 : gm_wd 1713 = some (Jvm.Cond.code yX12_keeps cX12_keeps 2 none) := rfl
set_option maxRecDepth 20000 in
theorem gm_cw233 : gm_wd 1705 = some (Jvm.Cond.code yX12_speak cX12_speak 4 (some .boolean)) := rfl
set_option maxRecDepth 20000 in
theorem gm_cw234 : gm_wd 1717 = some (Jvm.Cond.code yX12_praise cX12_praise 2 (some .int)) := rfl
set_option maxRecDepth 20000 in
theorem gm_cw235 : gm_wd 1721 = some (Jvm.Cond.code yX12_reads cX12_reads 4 (some .int)) := rfl
set_option maxRecDepth 20000 in
theorem gm_cw236 : gm_wd 1733 = some (Jvm.Cond.code yX12_swears cX12_swears 3 none) := rfl
set_option maxRecDepth 20000 in
theorem gm_cw237 : gm_wd 1725 = some (Jvm.Cond.code yX12_swear cX12_swear 3 (some .boolean)) := rfl
set_option maxRecDepth 20000 in
theorem gm_cw238 : gm_wd 1737 = some (Jvm.Cond.code yX12_session cX12_session 3 (some .int)) := rfl
set_option maxRecDepth 20000 in
theorem gm_cw239 : gm_wd 1773 = some (Jvm.Cond.code yX12_undo cX12_undo 2 (some .boolean)) := rfl
set_option maxRecDepth 20000 in
theorem gm_cw240 : gm_wd 1777 = some (Jvm.Cond.code yX12_now cX12_now 3 (some .int)) := rfl
set_option maxRecDepth 20000 in
theorem gm_cw241 : gm_wd 1802 = some (Jvm.Cond.code yX12_common cX12_common 5 (some .int)) := rfl
set_option maxRecDepth 20000 in
theorem gm_cw242 : gm_wd 1799 = some (Jvm.Cond.code yX12_tens cX12_tens 3 (some .int)) := rfl
set_option maxRecDepth 20000 in
theorem gm_cw243 : gm_wd 1789 = some (Jvm.Cond.code yX12_oftenFalls cX12_oftenFalls 8 (some .int)) := rfl
set_option maxRecDepth 20000 in
theorem gm_cw244 : gm_wd 1793 = some (Jvm.Cond.code yX12_lineOf cX12_lineOf 6 (some .int)) := rfl
set_option maxRecDepth 20000 in
theorem gm_cw245 : gm_wd 1785 = some (Jvm.Cond.code yX12_isAsked cX12_isAsked 3 (some .boolean)) := rfl
set_option maxRecDepth 20000 in
theorem gm_cw246 : gm_wd 1781 = some (Jvm.Cond.code yX12_likely cX12_likely 4 (some .int)) := rfl
set_option maxRecDepth 20000 in
theorem gm_cw247 : gm_wd 1806 = some (Jvm.Cond.code yX12_change cX12_change 8 (some .int)) := rfl
set_option maxRecDepth 20000 in
theorem gm_cw248 : gm_wd 1818 = some (Jvm.Cond.code yX12_setsManners cX12_setsManners 3 none) := rfl
set_option maxRecDepth 20000 in
theorem gm_cw249 : gm_wd 1814 = some (Jvm.Cond.code yX12_fillsChosen cX12_fillsChosen 5 none) := rfl
set_option maxRecDepth 20000 in
theorem gm_cw250 : gm_wd 1810 = some (Jvm.Cond.code yX12_choose cX12_choose 4 (some .int)) := rfl
set_option maxRecDepth 20000 in
theorem gm_cw251 : gm_wd 1822 = some (Jvm.Cond.code yX12_chosen cX12_chosen 4 (some .int)) := rfl
set_option maxRecDepth 20000 in
theorem gm_cw252 : gm_wd 1834 = some (Jvm.Cond.code yX12_hasBy cX12_hasBy 4 (some .int)) := rfl
set_option maxRecDepth 20000 in
theorem gm_cw253 : gm_wd 1830 = some (Jvm.Cond.code yX12_isResting cX12_isResting 5 (some .boolean)) := rfl
set_option maxRecDepth 20000 in
theorem gm_cw254 : gm_wd 1826 = some (Jvm.Cond.code yX12_mumble cX12_mumble 6 (some .int)) := rfl
set_option maxRecDepth 20000 in
theorem gm_cw255 : gm_wd 1842 = some (Jvm.Cond.code yX12_apartNow cX12_apartNow 5 (some .int)) := rfl
set_option maxRecDepth 20000 in
theorem gm_cw256 : gm_wd 1838 = some (Jvm.Cond.code yX12_jury cX12_jury 8 (some .int)) := rfl
set_option maxRecDepth 20000 in
theorem gm_cw257 : gm_wd 1846 = some (Jvm.Cond.code yX12_say cX12_say 4 (some .int)) := rfl
set_option maxRecDepth 20000 in
theorem gm_cw258 : gm_wd 1850 = some (Jvm.Cond.code yX12_fine cX12_fine 3 (some .int)) := rfl
set_option maxRecDepth 20000 in
theorem gm_cw259 : gm_wd 1854 = some (Jvm.Cond.code yX12_ahead cX12_ahead 5 (some .int)) := rfl
set_option maxRecDepth 20000 in
theorem gm_cw260 : gm_wd 1862 = some (Jvm.Cond.code yX12_givenBy cX12_givenBy 5 (some .int)) := rfl
set_option maxRecDepth 20000 in
theorem gm_cw261 : gm_wd 1858 = some (Jvm.Cond.code yX12_harsh cX12_harsh 5 (some .int)) := rfl
set_option maxRecDepth 20000 in
theorem gm_cw262 : gm_wd 1866 = some (Jvm.Cond.code yX12_praiseFor cX12_praiseFor 5 (some .int)) := rfl
set_option maxRecDepth 20000 in
theorem gm_cw263 : gm_wd 1870 = some (Jvm.Cond.code yX12_old cX12_old 3 (some .int)) := rfl
set_option maxRecDepth 20000 in
theorem gm_cw264 : gm_wd 1874 = some (Jvm.Cond.code yX12_year cX12_year 6 (some .int)) := rfl
set_option maxRecDepth 20000 in
theorem gm_cw265 : gm_wd 1878 = some (Jvm.Cond.code yX12_tell cX12_tell 3 (some .int)) := rfl
set_option maxRecDepth 20000 in
theorem gm_cw266 : gm_wd 1882 = some (Jvm.Cond.code yX12_forget cX12_forget 2 (some .int)) := rfl
set_option maxRecDepth 20000 in
theorem gm_cw267 : gm_wd 1894 = some (Jvm.Cond.code yX12_isSo cX12_isSo 5 (some .boolean)) := rfl
set_option maxRecDepth 20000 in
theorem gm_cw268 : gm_wd 1890 = some (Jvm.Cond.code yX12_speakingAll cX12_speakingAll 3 (some .int)) := rfl
set_option maxRecDepth 20000 in
theorem gm_cw269 : gm_wd 1886 = some (Jvm.Cond.code yX12_slipped cX12_slipped 8 (some .int)) := rfl
set_option maxRecDepth 20000 in
theorem gm_cw270 : gm_wd 1898 = some (Jvm.Cond.code yX12_thinks cX12_thinks 5 (some .int)) := rfl
set_option maxRecDepth 20000 in
theorem gm_cw271 : gm_wd 1902 = some (Jvm.Cond.code yX12_hold cX12_hold 3 (some .boolean)) := rfl
set_option maxRecDepth 20000 in
theorem gm_cw272 : gm_wd 1906 = some (Jvm.Cond.code yX12_restore cX12_restore 3 (some .boolean)) := rfl
set_option maxRecDepth 20000 in
theorem gm_cw273 : gm_wd 1910 = some (Jvm.Cond.code yX12_count cX12_count 4 (some .int)) := rfl
set_option maxRecDepth 20000 in
theorem gm_cw274 : gm_wd 672 = some (Jvm.Cond.code yJ11_isValidCodePoint_9a6ad cJ11_isValidCodePoint_9a6ad 2 (some .boolean)) := rfl
set_option maxRecDepth 20000 in
theorem gm_cw275 : gm_wd 675 = some (Jvm.Cond.code yJ11_highSurrogate_5068e cJ11_highSurrogate_5068e 1 (some .char)) := rfl
set_option maxRecDepth 20000 in
theorem gm_cw276 : gm_wd 679 = some (Jvm.Cond.code yJ11_lowSurrogate_5068e cJ11_lowSurrogate_5068e 1 (some .char)) := rfl
set_option maxRecDepth 20000 in
theorem gm_cw277 : gm_wd 1041 = some (Jvm.Cond.code yJ6_numberOfTrailingZeros_0f7a4 cJ6_numberOfTrailingZeros_0f7a4 2 (some .int)) := rfl
set_option maxRecDepth 20000 in
theorem gm_cw278 : gm_wd 1070 = some (Jvm.Cond.code yJ6_bitCount_0f7a4 cJ6_bitCount_0f7a4 1 (some .int)) := rfl
set_option maxRecDepth 20000 in
theorem gm_cw279 : gm_wd 639 = some (Jvm.Cond.code yJ9_max_7cf53 cJ9_max_7cf53 2 (some .int)) := rfl
set_option maxRecDepth 20000 in
theorem gm_cw280 : gm_wd 642 = some (Jvm.Cond.code yJ9_min_7cf53 cJ9_min_7cf53 2 (some .int)) := rfl
set_option maxRecDepth 20000 in
theorem gm_cw281 : gm_wd 151 = some (Jvm.Cond.code yJ0_length_8abf5 cJ0_length_8abf5 1 (some .int)) := rfl
set_option maxRecDepth 20000 in
theorem gm_cw282 : gm_wd 161 = some (Jvm.Cond.code yJ0_charAt_5068e cJ0_charAt_5068e 2 (some .char)) := rfl
set_option maxRecDepth 20000 in
theorem gm_cw283 : gm_wd 625 = some (Jvm.Cond.code yJ0_indexOf_0f7a4 cJ0_indexOf_0f7a4 2 (some .int)) := rfl
set_option maxRecDepth 20000 in
theorem gm_cw284 : gm_wd 629 = some (Jvm.Cond.code yJ0_indexOf_7cf53 cJ0_indexOf_7cf53 3 (some .int)) := rfl
set_option maxRecDepth 20000 in
theorem gm_cw285 : gm_wd 155 = some (Jvm.Cond.code yJ0_coder_7d493 cJ0_coder_7d493 1 (some .byte)) := rfl
set_option maxRecDepth 20000 in
theorem gm_cw286 : gm_wd 165 = some (Jvm.Cond.code yJ0_isLatin1_aae02 cJ0_isLatin1_aae02 1 (some .boolean)) := rfl
set_option maxRecDepth 20000 in
theorem gm_cw287 : gm_wd 171 = some (Jvm.Cond.code yJ0_checkIndex_df160 cJ0_checkIndex_df160 2 none) := rfl
set_option maxRecDepth 20000 in
theorem gm_cw288 : gm_wd 660 = some (Jvm.Cond.code yJ0_checkBoundsBeginEnd_23922 cJ0_checkBoundsBeginEnd_23922 3 none) := rfl
set_option maxRecDepth 20000 in
theorem gm_cw289 : gm_wd 168 = some (Jvm.Cond.code yJ1_charAt_3b067 cJ1_charAt_3b067 2 (some .char)) := rfl
set_option maxRecDepth 20000 in
theorem gm_cw290 : gm_wd 636 = some (Jvm.Cond.code yJ1_canEncode_9a6ad cJ1_canEncode_9a6ad 1 (some .boolean)) := rfl
set_option maxRecDepth 20000 in
theorem gm_cw291 : gm_wd 633 = some (Jvm.Cond.code yJ1_indexOf_4cfef cJ1_indexOf_4cfef 4 (some .int)) := rfl
set_option maxRecDepth 20000 in
theorem gm_cw292 : gm_wd 645 = some (Jvm.Cond.code yJ1_indexOfChar_4cfef cJ1_indexOfChar_4cfef 6 (some .int)) := rfl
set_option maxRecDepth 20000 in
theorem gm_cw293 : gm_wd 189 = some (Jvm.Cond.code yJ2_getChar_3b067 cJ2_getChar_3b067 2 (some .char)) := rfl
set_option maxRecDepth 20000 in
theorem gm_cw294 : gm_wd 185 = some (Jvm.Cond.code yJ2_length_9d52b cJ2_length_9d52b 1 (some .int)) := rfl
set_option maxRecDepth 20000 in
theorem gm_cw295 : gm_wd 648 = some (Jvm.Cond.code yJ2_indexOf_4cfef cJ2_indexOf_4cfef 4 (some .int)) := rfl
set_option maxRecDepth 20000 in
theorem gm_cw296 : gm_wd 654 = some (Jvm.Cond.code yJ2_indexOfChar_4cfef cJ2_indexOfChar_4cfef 4 (some .int)) := rfl
set_option maxRecDepth 20000 in
theorem gm_cw297 : gm_wd 666 = some (Jvm.Cond.code yJ2_indexOfCharUnsafe_4cfef cJ2_indexOfCharUnsafe_4cfef 5 (some .int)) := rfl
set_option maxRecDepth 20000 in
theorem gm_cw298 : gm_wd 669 = some (Jvm.Cond.code yJ2_indexOfSupplementary_4cfef cJ2_indexOfSupplementary_4cfef 7 (some .int)) := rfl
set_option maxRecDepth 20000 in
theorem gm_cw299 : gm_wd 179 = some (Jvm.Cond.code yJ2_charAt_3b067 cJ2_charAt_3b067 2 (some .char)) := rfl
set_option maxRecDepth 20000 in
theorem gm_cw300 : gm_wd 182 = some (Jvm.Cond.code yJ2_checkIndex_2214a cJ2_checkIndex_2214a 2 none) := rfl
set_option maxRecDepth 20000 in
theorem gm_cw301 : gm_wd 657 = some (Jvm.Cond.code yJ2_checkBoundsBeginEnd_d044e cJ2_checkBoundsBeginEnd_d044e 3 none) := rfl
set_option maxRecDepth 20000 in
theorem gm_cw302 : gm_wd 176 = some (Jvm.Cond.code yJ3_checkIndex_8e157 cJ3_checkIndex_8e157 3 (some .int)) := rfl
set_option maxRecDepth 20000 in
theorem gm_cw303 : gm_wd 663 = some (Jvm.Cond.code yJ3_checkFromToIndex_8c36e cJ3_checkFromToIndex_8c36e 4 (some .int)) := rfl
set_option maxRecDepth 20000 in
theorem gm_cw305 : gm_wd 784 = some (Jvm.Cond.code yX2_leadOn cX2_leadOn 2 none) := rfl
def gm_NTb (e : Nat × Nat × Nat × Nat × Nat × Nat) : Bool := match vwCl[e.2.2.1]?, gm_On[e.1]? with
  | some q, some on => decide (gm_wd e.2.2.2.1 = some (Jvm.Cond.classLink on e.2.1 q.1)) && decide (gm_wd e.2.2.2.2.1 = some (Jvm.Cond.instantiable q.1 q.2.2)) && decide (gm_wd e.2.2.2.2.2 = some (Jvm.Cond.initialized q.1))
  | _, _ => false
set_option maxRecDepth 100000 in
theorem gm_NT_ok : gm_NT.all gm_NTb = true := by decide +kernel
set_option maxRecDepth 100000 in
theorem gm_KT_ok : (gm_KT.all fun e => match gm_On[e.1]? with
  | some on => decide (gm_wd e.2.2.2 = some (Jvm.Cond.constant on e.2.1 e.2.2.1))
  | none => false) = true := by decide +kernel
set_option maxRecDepth 100000 in
theorem gm_LT_ok : (gm_LT.all fun e => match gm_On[e.1]? with
  | some on => decide (gm_wd e.2.2.2 = some (Jvm.Cond.constantLong on e.2.1 e.2.2.1))
  | none => false) = true := by decide +kernel
def gm_sn (id : Nat) : String := match id with
  | 1001 => "MOST"
  | 1002 => "NAMES"
  | 1003 => "INTS"
  | 1004 => "LOW"
  | _ => "HIGH"
set_option maxRecDepth 100000 in
theorem gm_ST_ok : (gm_ST.all fun e => match gm_On[e.1]? with
  | some on => decide (gm_wd e.2.2.2 = some (Jvm.Cond.fieldLinkNest on e.2.1 "WorseSenate" (gm_sn e.2.2.1) "[I" "WorseSenate")) && decide (1001 ≤ e.2.2.1) && decide (e.2.2.1 ≤ 1005)
  | none => false) = true := by decide +kernel
/-- the words that go into every method's specification -/
def gm_T : List Jvm.Cond := lw_tbl.filter goodWord
theorem gm_T_in {w : Jvm.Cond} (h : w ∈ lw_tbl) (hg : goodWord w = true) : w ∈ gm_T := List.mem_filter.mpr ⟨h, hg⟩
