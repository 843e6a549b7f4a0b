/-! the tables of the pure machine hold against the tables' words: written by wip/whole/gen_checks.py -/
/-- the word at a place of lw_tbl, by its part -/
def gm_wd (p : Nat) : Option Jvm.Cond := if p < 104 then (k2_sels lw_privs)[p]? else if p < 344 then tables_1_1[p - 104]? else if p < 584 then tables_1_2[p - 344]? else if p < 824 then tables_1_3[p - 584]? else if p < 1064 then tables_1_4[p - 824]? else if p < 1304 then tables_1_5[p - 1064]? else if p < 1544 then tables_1_6[p - 1304]? else if p < 1784 then tables_1_7[p - 1544]? else if p < 1908 then tables_1_8[p - 1784]? else none
theorem gm_wd_in {p : Nat} {w : Jvm.Cond} (h : gm_wd p = some w) : w ∈ lw_tbl := by
  unfold gm_wd at h
  unfold lw_tbl tables_1
  simp only [List.mem_append]
  split at h
  · exact Or.inl (List.mem_of_getElem? h)
  split at h
  · exact Or.inr (Or.inl (List.mem_of_getElem? h))
  split at h
  · exact Or.inr (Or.inr (Or.inl (List.mem_of_getElem? h)))
  split at h
  · exact Or.inr (Or.inr (Or.inr (Or.inl (List.mem_of_getElem? h))))
  split at h
  · exact Or.inr (Or.inr (Or.inr (Or.inr (Or.inl (List.mem_of_getElem? h)))))
  split at h
  · exact Or.inr (Or.inr (Or.inr (Or.inr (Or.inr (Or.inl (List.mem_of_getElem? h))))))
  split at h
  · exact Or.inr (Or.inr (Or.inr (Or.inr (Or.inr (Or.inr (Or.inl (List.mem_of_getElem? h)))))))
  split at h
  · exact Or.inr (Or.inr (Or.inr (Or.inr (Or.inr (Or.inr (Or.inr (Or.inl (List.mem_of_getElem? h))))))))
  split at h
  · exact Or.inr (Or.inr (Or.inr (Or.inr (Or.inr (Or.inr (Or.inr (Or.inr (List.mem_of_getElem? h))))))))
  · cases h
def gm_nst (w : Jvm.Cond) : Bool := match w with
  | .fieldLinkNest .. => true
  | .methodLinkNest .. => true
  | _ => false
def gm_fyc (d : String) : Nat := match parseFieldDescriptor d with
  | some .int => 0
  | some .long => 1
  | some .boolean => 3
  | some (.object _) => 2
  | some (.array _) => 2
  | _ => 9
def gm_FTb (e : Nat × Nat × Nat × Nat × Nat × Nat) : Bool := match vwCl[e.2.2.2.1]?, gm_On[e.1]? with
  | some q, some on => decide (e.2.2.2.2.1 < q.2.2) && decide ((q.2.1 e.2.2.2.2.1).1 = q.1) && decide (gm_fy e.2.2.2.1 e.2.2.2.2.1 = gm_fyc (q.2.1 e.2.2.2.2.1).2.2.1) && decide ((gm_FY.getD e.2.2.2.1 []).length = q.2.2) &&
    (if e.2.2.1 = 0 then decide (gm_wd e.2.2.2.2.2 = some (Jvm.Cond.fieldLink on e.2.1 q.1 (q.2.1 e.2.2.2.2.1).2.1 (q.2.1 e.2.2.2.2.1).2.2.1)) else decide (gm_wd e.2.2.2.2.2 = some (Jvm.Cond.fieldLinkNest on e.2.1 q.1 (q.2.1 e.2.2.2.2.1).2.1 (q.2.1 e.2.2.2.2.1).2.2.1 "WorseSenate")))
  | _, _ => false
set_option maxRecDepth 100000 in
theorem gm_FT_ok : gm_FT.all gm_FTb = true := by decide +kernel
def gm_CTb (e : Nat × Nat × Nat × Nat × Nat × Nat × Nat) : Bool := match gm_MT[e.2.2.2.1]?, gm_On[e.1]? with
  | some N, some on => match e.2.2.1 with
    | 0 => decide ((gm_y N).cls ≠ "java/lang/Math") && decide (e.2.2.2.1 ≠ 304) && decide (gm_wd e.2.2.2.2.1 = some (Jvm.Cond.methodLink on e.2.1 (gm_y N))) && decide (gm_wd e.2.2.2.2.2.1 = some (Jvm.Cond.static (gm_y N)))
    | 1 => decide ((gm_y N).cls ≠ "java/lang/Math") && decide (e.2.2.2.1 ≠ 304) && decide (gm_wd e.2.2.2.2.1 = some (Jvm.Cond.methodLink on e.2.1 (gm_y N))) && decide (gm_wd e.2.2.2.2.2.1 = some (Jvm.Cond.instanceMethod (gm_y N))) && decide (gm_wd e.2.2.2.2.2.2 = some (Jvm.Cond.selects (gm_y N).cls (gm_y N) (gm_y N)))
    | 2 => decide ((gm_y N).cls ≠ "java/lang/Math") && decide (e.2.2.2.1 ≠ 304) && decide (gm_wd e.2.2.2.2.1 = some (Jvm.Cond.methodLink on e.2.1 (gm_y N))) && decide (gm_wd e.2.2.2.2.2.1 = some (Jvm.Cond.instanceMethod (gm_y N))) && decide ((gm_y N).name = "<init>") && decide (gm_ret N = none)
    | 3 => decide ((gm_y N).cls ≠ "java/lang/Math") && decide (e.2.2.2.1 ≠ 304) && decide (gm_wd e.2.2.2.2.1 = some (Jvm.Cond.methodLinkNest on e.2.1 (gm_y N) "WorseSenate")) && decide (gm_wd e.2.2.2.2.2.1 = some (Jvm.Cond.instanceMethod (gm_y N))) && decide ((gm_y N).name = "<init>") && decide (gm_ret N = none)
    | 4 => decide ((gm_y N).cls ≠ "java/lang/Math") && decide (e.2.2.2.1 ≠ 304) && decide (gm_wd e.2.2.2.2.1 = some (Jvm.Cond.methodLinkNest on e.2.1 (gm_y N) "WorseSenate")) && decide (gm_wd e.2.2.2.2.2.1 = some (Jvm.Cond.static (gm_y N)))
    | 6 => decide (gm_wd e.2.2.2.2.1 = some (Jvm.Cond.methodLink on e.2.1 objectInit)) && decide (gm_wd e.2.2.2.2.2.1 = some (Jvm.Cond.instanceMethod objectInit))
    | 11 => decide (gm_wd e.2.2.2.2.1 = some (Jvm.Cond.methodLink on e.2.1 Lib.Math.max.name)) && decide (gm_wd e.2.2.2.2.2.1 = some (Jvm.Cond.static Lib.Math.max.name))
    | 12 => decide (gm_wd e.2.2.2.2.1 = some (Jvm.Cond.methodLink on e.2.1 Lib.Math.min.name)) && decide (gm_wd e.2.2.2.2.2.1 = some (Jvm.Cond.static Lib.Math.min.name))
    | 7 => decide (gm_wd e.2.2.2.2.1 = some (Jvm.Cond.methodLink on e.2.1 arraycopyName)) && decide (gm_wd e.2.2.2.2.2.1 = some (Jvm.Cond.static arraycopyName))
    | _ => true
  | _, _ => false
set_option maxRecDepth 100000 in
theorem gm_CT_0 : ((gm_CT.drop 0).take 30).all gm_CTb = true := by decide +kernel
set_option maxRecDepth 100000 in
theorem gm_CT_30 : ((gm_CT.drop 30).take 30).all gm_CTb = true := by decide +kernel
set_option maxRecDepth 100000 in
theorem gm_CT_60 : ((gm_CT.drop 60).take 30).all gm_CTb = true := by decide +kernel
set_option maxRecDepth 100000 in
theorem gm_CT_90 : ((gm_CT.drop 90).take 30).all gm_CTb = true := by decide +kernel
set_option maxRecDepth 100000 in
theorem gm_CT_120 : ((gm_CT.drop 120).take 30).all gm_CTb = true := by decide +kernel
set_option maxRecDepth 100000 in
theorem gm_CT_150 : ((gm_CT.drop 150).take 30).all gm_CTb = true := by decide +kernel
set_option maxRecDepth 100000 in
theorem gm_CT_180 : ((gm_CT.drop 180).take 30).all gm_CTb = true := by decide +kernel
set_option maxRecDepth 100000 in
theorem gm_CT_210 : ((gm_CT.drop 210).take 30).all gm_CTb = true := by decide +kernel
set_option maxRecDepth 100000 in
theorem gm_CT_240 : ((gm_CT.drop 240).take 30).all gm_CTb = true := by decide +kernel
set_option maxRecDepth 100000 in
theorem gm_CT_270 : ((gm_CT.drop 270).take 30).all gm_CTb = true := by decide +kernel
set_option maxRecDepth 100000 in
theorem gm_CT_300 : ((gm_CT.drop 300).take 30).all gm_CTb = true := by decide +kernel
set_option maxRecDepth 100000 in
theorem gm_CT_330 : ((gm_CT.drop 330).take 30).all gm_CTb = true := by decide +kernel
set_option maxRecDepth 100000 in
theorem gm_CT_360 : ((gm_CT.drop 360).take 30).all gm_CTb = true := by decide +kernel
theorem gm_all_dt {α : Type} {l : List α} {p : α → Bool} {a b : Nat} (h1 : ((l.drop a).take b).all p = true) (h2 : (l.drop (a + b)).all p = true) : (l.drop a).all p = true := by
  rw [← List.take_append_drop b (l.drop a), List.all_append, h1, List.drop_drop, h2]
  rfl
theorem gm_CT_ok : gm_CT.all gm_CTb = true := by
  have h := (gm_all_dt (a := 0) gm_CT_0 (gm_all_dt gm_CT_30 (gm_all_dt gm_CT_60 (gm_all_dt gm_CT_90 (gm_all_dt gm_CT_120 (gm_all_dt gm_CT_150 (gm_all_dt gm_CT_180 (gm_all_dt gm_CT_210 (gm_all_dt gm_CT_240 (gm_all_dt gm_CT_270 (gm_all_dt gm_CT_300 (gm_all_dt gm_CT_330 (gm_all_dt gm_CT_360 (by rw [List.drop_eq_nil_of_le (by decide +kernel)]; rfl))))))))))))))
  exact h
/-- places of a method's code word and of its class' initialized word -/
def gm_MP : List (Nat × Nat) := [(459, 119), (991, 119), (996, 119), (1008, 119), (1024, 119), (1057, 119), (1112, 119), (1032, 119), (1072, 119), (1019, 119), (1042, 119), (1028, 119), (1053, 119), (1061, 119), (1081, 119), (1087, 119), (1091, 119), (1096, 119), (1108, 119), (1116, 119), (1125, 119), (1136, 119), (1132, 119), (1181, 119), (1199, 119), (223, 112), (596, 112), (683, 112), (687, 112), (691, 112), (701, 112), (705, 112), (709, 112), (713, 112), (717, 112), (721, 112), (295, 115), (322, 115), (770, 115), (783, 115), (776, 115), (779, 115), (326, 115), (872, 115), (382, 117), (793, 117), (907, 117), (983, 117), (1236, 117), (1244, 117), (910, 117), (138, 106), (588, 106), (592, 106), (729, 106), (741, 106), (289, 114), (765, 114), (788, 114), (523, 114), (952, 114), (841, 114), (144, 107), (600, 107), (610, 107), (617, 107), (603, 107), (606, 107), (613, 107), (408, 118), (852, 118), (864, 118), (886, 118), (898, 118), (1001, 118), (957, 118), (868, 118), (371, 116), (519, 116), (809, 116), (527, 116), (531, 116), (813, 116), (818, 116), (821, 116), (962, 116), (1260, 116), (859, 116), (833, 116), (975, 116), (965, 124), (1011, 124), (1150, 124), (968, 124), (971, 124), (1147, 124), (1173, 124), (1158, 124), (1143, 124), (1155, 124), (1139, 124), (252, 113), (725, 113), (737, 113), (750, 113), (754, 113), (733, 113), (746, 113), (130, 105), (572, 105), (580, 105), (584, 105), (797, 105), (801, 105), (825, 105), (845, 105), (878, 105), (890, 105), (903, 105), (920, 105), (924, 105), (928, 105), (936, 105), (979, 105), (987, 105), (1015, 105), (1049, 105), (1077, 105), (1100, 105), (1104, 105), (1121, 105), (1162, 105), (1166, 105), (1170, 105), (1177, 105), (1186, 105), (1191, 105), (1195, 105), (1204, 105), (1208, 105), (1212, 105), (1227, 105), (1232, 105), (1240, 105), (1248, 105), (576, 105), (805, 105), (829, 105), (932, 105), (848, 105), (882, 105), (837, 105), (1252, 105), (1256, 105), (1268, 105), (1264, 105), (894, 105), (940, 105), (1216, 105), (1220, 105), (1223, 105), (1045, 105), (944, 105), (947, 105), (1273, 120), (1499, 120), (1503, 120), (1507, 120), (1519, 120), (1529, 120), (1526, 120), (1284, 120), (1281, 120), (1523, 120), (1515, 120), (1533, 120), (1537, 120), (1549, 120), (1557, 120), (1545, 120), (1561, 120), (1278, 120), (1511, 120), (1617, 120), (1613, 120), (1565, 120), (1541, 120), (1573, 120), (1577, 120), (1553, 120), (1569, 120), (1581, 120), (1585, 120), (1589, 120), (1609, 120), (1601, 120), (1605, 120), (1593, 120), (1597, 120), (1672, 120), (1628, 120), (1791, 120), (1625, 120), (1644, 120), (1724, 120), (1289, 120), (1293, 120), (1632, 120), (1743, 120), (1740, 120), (1636, 120), (1660, 120), (1664, 120), (1668, 120), (1656, 120), (1680, 120), (1684, 120), (1696, 120), (1692, 120), (1648, 120), (1752, 120), (1760, 120), (1756, 120), (1748, 120), (1764, 120), (1704, 120), (1736, 120), (1621, 120), (1640, 120), (1652, 120), (1676, 120), (1688, 120), (1708, 120), (1700, 120), (1712, 120), (1716, 120), (1728, 120), (1720, 120), (1732, 120), (1768, 120), (1772, 120), (1797, 120), (1794, 120), (1784, 120), (1788, 120), (1780, 120), (1776, 120), (1801, 120), (1813, 120), (1809, 120), (1805, 120), (1817, 120), (1829, 120), (1825, 120), (1821, 120), (1837, 120), (1833, 120), (1841, 120), (1845, 120), (1849, 120), (1857, 120), (1853, 120), (1861, 120), (1865, 120), (1869, 120), (1873, 120), (1877, 120), (1889, 120), (1885, 120), (1881, 120), (1893, 120), (1897, 120), (1901, 120), (1905, 120), (671, 122), (674, 122), (678, 122), (1036, 125), (1065, 125), (638, 121), (641, 121), (150, 108), (160, 108), (624, 108), (628, 108), (154, 108), (164, 108), (170, 108), (659, 108), (167, 109), (635, 109), (632, 109), (644, 109), (188, 111), (184, 111), (647, 111), (653, 111), (665, 111), (668, 111), (178, 111), (181, 111), (656, 111), (175, 110), (662, 110), (0, 0)]
def gm_MTb (q : gm_M × (Nat × Nat)) : Bool := decide (q.2.1 = 0) || (decide (gm_wd q.2.2 = some (Jvm.Cond.initialized (gm_y q.1).cls)) && (plainName (gm_y q.1).cls || decide ((gm_y q.1).cls = "java/lang/Math")) && decide ((gm_y q.1).cls ≠ "java/lang/invoke/MethodHandle") && decide ((gm_y q.1).cls ≠ "java/lang/invoke/VarHandle") && decide ((parseMethodDescriptor (gm_y q.1).desc).map (fun d => d.parameters.length) = some (gm_np q.1)) && decide (gm_On[gm_own q.1]? = some (gm_y q.1).cls))
set_option maxRecDepth 100000 in
theorem gm_MT_ok : (gm_MT.zip gm_MP).all gm_MTb = true := by decide +kernel
def gm_cdw (M : gm_M) : Prop := Jvm.Cond.code (gm_y M) (gm_b M) (gm_ml M) (gm_ret M) ∈ lw_tbl
set_option maxRecDepth 20000 in
theorem gm_cw0 : gm_wd 459 = some (Jvm.Cond.code yX0_init cX0_init 4 none) := rfl
set_option maxRecDepth 20000 in
theorem gm_cw1 : gm_wd 991 = some (Jvm.Cond.code yX0_gather cX0_gather 4 none) := rfl
set_option maxRecDepth 20000 in
theorem gm_cw2 : gm_wd 996 = some (Jvm.Cond.code yX0_takeSpeech cX0_takeSpeech 2 none) := rfl
set_option maxRecDepth 20000 in
theorem gm_cw3 : gm_wd 1008 = some (Jvm.Cond.code yX0_asItIs cX0_asItIs 4 (some .long)) := rfl
set_option maxRecDepth 20000 in
theorem gm_cw4 : gm_wd 1024 = some (Jvm.Cond.code yX0_turnBySlip cX0_turnBySlip 2 none) := rfl
set_option maxRecDepth 20000 in
theorem gm_cw5 : gm_wd 1057 = some (Jvm.Cond.code yX0_turnByOath cX0_turnByOath 2 none) := rfl
set_option maxRecDepth 20000 in
theorem gm_cw6 : gm_wd 1112 = some (Jvm.Cond.code yX0_turnByMumble cX0_turnByMumble 2 none) := rfl
set_option maxRecDepth 20000 in
theorem gm_cw7 : gm_wd 1032 = some (Jvm.Cond.code yX0_fillBags cX0_fillBags 3 none) := rfl
set_option maxRecDepth 20000 in
theorem gm_cw8 : gm_wd 1072 = some (Jvm.Cond.code yX0_menOf cX0_menOf 4 (some .int)) := rfl
set_option maxRecDepth 20000 in
theorem gm_cw9 : gm_wd 1019 = some (Jvm.Cond.code yX0_weigh cX0_weigh 5 none) := rfl
set_option maxRecDepth 20000 in
theorem gm_cw10 : gm_wd 1042 = some (Jvm.Cond.code yX0_allChances cX0_allChances 3 (some .int)) := rfl
set_option maxRecDepth 20000 in
theorem gm_cw11 : gm_wd 1028 = some (Jvm.Cond.code yX0_chanceOf cX0_chanceOf 4 (some .int)) := rfl
set_option maxRecDepth 20000 in
theorem gm_cw12 : gm_wd 1053 = some (Jvm.Cond.code yX0_whoChanges cX0_whoChanges 4 (some .int)) := rfl
set_option maxRecDepth 20000 in
theorem gm_cw13 : gm_wd 1061 = some (Jvm.Cond.code yX0_maySwear cX0_maySwear 3 (some .boolean)) := rfl
set_option maxRecDepth 20000 in
theorem gm_cw14 : gm_wd 1081 = some (Jvm.Cond.code yX0_pickManners cX0_pickManners 5 (some .int)) := rfl
set_option maxRecDepth 20000 in
theorem gm_cw15 : gm_wd 1087 = some (Jvm.Cond.code yX0_gatherPickers cX0_gatherPickers 4 none) := rfl
set_option maxRecDepth 20000 in
theorem gm_cw16 : gm_wd 1091 = some (Jvm.Cond.code yX0_mannerIn cX0_mannerIn 3 (some .int)) := rfl
set_option maxRecDepth 20000 in
theorem gm_cw17 : gm_wd 1096 = some (Jvm.Cond.code yX0_pickedManner cX0_pickedManner 2 (some .int)) := rfl
set_option maxRecDepth 20000 in
theorem gm_cw18 : gm_wd 1108 = some (Jvm.Cond.code yX0_rest cX0_rest 5 (some .int)) := rfl
set_option maxRecDepth 20000 in
theorem gm_cw19 : gm_wd 1116 = some (Jvm.Cond.code yX0_isRest cX0_isRest 6 (some .boolean)) := rfl
set_option maxRecDepth 20000 in
theorem gm_cw20 : gm_wd 1125 = some (Jvm.Cond.code yX0_gatherJurors cX0_gatherJurors 6 none) := rfl
set_option maxRecDepth 20000 in
theorem gm_cw21 : gm_wd 1136 = some (Jvm.Cond.code yX0_bagOf cX0_bagOf 5 (some .long)) := rfl
set_option maxRecDepth 20000 in
theorem gm_cw22 : gm_wd 1132 = some (Jvm.Cond.code yX0_fairest cX0_fairest 6 (some .int)) := rfl
set_option maxRecDepth 20000 in
theorem gm_cw23 : gm_wd 1181 = some (Jvm.Cond.code yX0_harshest cX0_harshest 7 (some .int)) := rfl
set_option maxRecDepth 20000 in
theorem gm_cw24 : gm_wd 1199 = some (Jvm.Cond.code yX0_fallsBySeeds cX0_fallsBySeeds 9 (some .int)) := rfl
set_option maxRecDepth 20000 in
theorem gm_cw25 : gm_wd 223 = some (Jvm.Cond.code yX1_init cX1_init 1 none) := rfl
set_option maxRecDepth 20000 in
theorem gm_cw26 : gm_wd 596 = some (Jvm.Cond.code yX1_begin cX1_begin 2 none) := rfl
set_option maxRecDepth 20000 in
theorem gm_cw27 : gm_wd 683 = some (Jvm.Cond.code yX1_mayEnd cX1_mayEnd 1 (some .boolean)) := rfl
set_option maxRecDepth 20000 in
theorem gm_cw28 : gm_wd 687 = some (Jvm.Cond.code yX1_faultOf cX1_faultOf 2 (some .int)) := rfl
set_option maxRecDepth 20000 in
theorem gm_cw29 : gm_wd 691 = some (Jvm.Cond.code yX1_openTell cX1_openTell 2 (some .int)) := rfl
set_option maxRecDepth 20000 in
theorem gm_cw30 : gm_wd 701 = some (Jvm.Cond.code yX1_takeField cX1_takeField 2 (some .int)) := rfl
set_option maxRecDepth 20000 in
theorem gm_cw31 : gm_wd 705 = some (Jvm.Cond.code yX1_takeEquals cX1_takeEquals 2 (some .int)) := rfl
set_option maxRecDepth 20000 in
theorem gm_cw32 : gm_wd 709 = some (Jvm.Cond.code yX1_takeOperand cX1_takeOperand 2 (some .int)) := rfl
set_option maxRecDepth 20000 in
theorem gm_cw33 : gm_wd 713 = some (Jvm.Cond.code yX1_takeIf cX1_takeIf 1 (some .int)) := rfl
set_option maxRecDepth 20000 in
theorem gm_cw34 : gm_wd 717 = some (Jvm.Cond.code yX1_takeOperator cX1_takeOperator 2 (some .int)) := rfl
set_option maxRecDepth 20000 in
theorem gm_cw35 : gm_wd 721 = some (Jvm.Cond.code yX1_closeSection cX1_closeSection 2 (some .int)) := rfl
set_option maxRecDepth 20000 in
theorem gm_cw36 : gm_wd 295 = some (Jvm.Cond.code yX2_init cX2_init 1 none) := rfl
set_option maxRecDepth 20000 in
theorem gm_cw37 : gm_wd 322 = some (Jvm.Cond.code yX2_begin cX2_begin 1 none) := rfl
set_option maxRecDepth 20000 in
theorem gm_cw38 : gm_wd 770 = some (Jvm.Cond.code yX2_take cX2_take 7 none) := rfl
set_option maxRecDepth 20000 in
theorem gm_cw39 : gm_wd 783 = some (Jvm.Cond.code yX2_takeSign cX2_takeSign 2 none) := rfl
set_option maxRecDepth 20000 in
theorem gm_cw40 : gm_wd 776 = some (Jvm.Cond.code yX2_release cX2_release 2 none) := rfl
set_option maxRecDepth 20000 in
theorem gm_cw41 : gm_wd 779 = some (Jvm.Cond.code yX2_rank cX2_rank 1 (some .int)) := rfl
set_option maxRecDepth 20000 in
theorem gm_cw42 : gm_wd 326 = some (Jvm.Cond.code yX2_addStep cX2_addStep 3 none) := rfl
set_option maxRecDepth 20000 in
theorem gm_cw43 : gm_wd 872 = some (Jvm.Cond.code yX2_value cX2_value 8 (some .int)) := rfl
set_option maxRecDepth 20000 in
theorem gm_cw44 : gm_wd 382 = some (Jvm.Cond.code yX3_init cX3_init 1 none) := rfl
set_option maxRecDepth 20000 in
theorem gm_cw45 : gm_wd 793 = some (Jvm.Cond.code yX3_clear cX3_clear 1 none) := rfl
set_option maxRecDepth 20000 in
theorem gm_cw46 : gm_wd 907 = some (Jvm.Cond.code yX3_keep cX3_keep 2 none) := rfl
set_option maxRecDepth 20000 in
theorem gm_cw47 : gm_wd 983 = some (Jvm.Cond.code yX3_takeBack cX3_takeBack 2 (some .boolean)) := rfl
set_option maxRecDepth 20000 in
theorem gm_cw48 : gm_wd 1236 = some (Jvm.Cond.code yX3_putInSlot cX3_putInSlot 3 none) := rfl
set_option maxRecDepth 20000 in
theorem gm_cw49 : gm_wd 1244 = some (Jvm.Cond.code yX3_takeFromSlot cX3_takeFromSlot 3 (some .boolean)) := rfl
set_option maxRecDepth 20000 in
theorem gm_cw50 : gm_wd 910 = some (Jvm.Cond.code yX3_copyRow cX3_copyRow 2 none) := rfl
set_option maxRecDepth 20000 in
theorem gm_cw51 : gm_wd 138 = some (Jvm.Cond.code yX4_init cX4_init 1 none) := rfl
set_option maxRecDepth 20000 in
theorem gm_cw52 : gm_wd 588 = some (Jvm.Cond.code yX4_faultOf cX4_faultOf 4 (some .int)) := rfl
set_option maxRecDepth 20000 in
theorem gm_cw53 : gm_wd 592 = some (Jvm.Cond.code yX4_faultOfForm cX4_faultOfForm 6 (some .int)) := rfl
set_option maxRecDepth 20000 in
theorem gm_cw54 : gm_wd 729 = some (Jvm.Cond.code yX4_faultOfSense cX4_faultOfSense 7 (some .int)) := rfl
set_option maxRecDepth 20000 in
theorem gm_cw55 : gm_wd 741 = some (Jvm.Cond.code yX4_faultOfTell cX4_faultOfTell 7 (some .int)) := rfl
set_option maxRecDepth 20000 in
theorem gm_cw56 : gm_wd 289 = some (Jvm.Cond.code yX5_init cX5_init 1 none) := rfl
set_option maxRecDepth 20000 in
theorem gm_cw57 : gm_wd 765 = some (Jvm.Cond.code yX5_fill cX5_fill 4 none) := rfl
set_option maxRecDepth 20000 in
theorem gm_cw58 : gm_wd 788 = some (Jvm.Cond.code yX5_takeTell cX5_takeTell 5 none) := rfl
set_option maxRecDepth 20000 in
theorem gm_cw59 : gm_wd 523 = some (Jvm.Cond.code yX5_toldOf cX5_toldOf 3 (some .int)) := rfl
set_option maxRecDepth 20000 in
theorem gm_cw60 : gm_wd 952 = some (Jvm.Cond.code yX5_slipOf cX5_slipOf 2 (some .int)) := rfl
set_option maxRecDepth 20000 in
theorem gm_cw61 : gm_wd 841 = some (Jvm.Cond.code yX5_worthOf cX5_worthOf 3 (some .int)) := rfl
set_option maxRecDepth 20000 in
theorem gm_cw62 : gm_wd 144 = some (Jvm.Cond.code yX6_init cX6_init 5 none) := rfl
set_option maxRecDepth 20000 in
theorem gm_cw63 : gm_wd 600 = some (Jvm.Cond.code yX6_step cX6_step 4 none) := rfl
set_option maxRecDepth 20000 in
theorem gm_cw64 : gm_wd 610 = some (Jvm.Cond.code yX6_takeLetters cX6_takeLetters 4 none) := rfl
set_option maxRecDepth 20000 in
theorem gm_cw65 : gm_wd 617 = some (Jvm.Cond.code yX6_takeDigits cX6_takeDigits 3 none) := rfl
set_option maxRecDepth 20000 in
theorem gm_cw66 : gm_wd 603 = some (Jvm.Cond.code yX6_isBlank cX6_isBlank 1 (some .boolean)) := rfl
set_option maxRecDepth 20000 in
theorem gm_cw67 : gm_wd 606 = some (Jvm.Cond.code yX6_isLetter cX6_isLetter 1 (some .boolean)) := rfl
set_option maxRecDepth 20000 in
theorem gm_cw68 : gm_wd 613 = some (Jvm.Cond.code yX6_isDigit cX6_isDigit 1 (some .boolean)) := rfl
set_option maxRecDepth 20000 in
theorem gm_cw69 : gm_wd 408 = some (Jvm.Cond.code yX7_init cX7_init 2 none) := rfl
set_option maxRecDepth 20000 in
theorem gm_cw70 : gm_wd 852 = some (Jvm.Cond.code yX7_take cX7_take 3 none) := rfl
set_option maxRecDepth 20000 in
theorem gm_cw71 : gm_wd 864 = some (Jvm.Cond.code yX7_goodness cX7_goodness 1 (some .int)) := rfl
set_option maxRecDepth 20000 in
theorem gm_cw72 : gm_wd 886 = some (Jvm.Cond.code yX7_markBy cX7_markBy 4 (some .int)) := rfl
set_option maxRecDepth 20000 in
theorem gm_cw73 : gm_wd 898 = some (Jvm.Cond.code yX7_totalAs cX7_totalAs 4 (some .int)) := rfl
set_option maxRecDepth 20000 in
theorem gm_cw74 : gm_wd 1001 = some (Jvm.Cond.code yX7_entry cX7_entry 1 (some .long)) := rfl
set_option maxRecDepth 20000 in
theorem gm_cw75 : gm_wd 957 = some (Jvm.Cond.code yX7_fineFor cX7_fineFor 2 (some .int)) := rfl
set_option maxRecDepth 20000 in
theorem gm_cw76 : gm_wd 868 = some (Jvm.Cond.code yX7_setVars cX7_setVars 5 none) := rfl
set_option maxRecDepth 20000 in
theorem gm_cw77 : gm_wd 371 = some (Jvm.Cond.code yX8_init cX8_init 1 none) := rfl
set_option maxRecDepth 20000 in
theorem gm_cw78 : gm_wd 519 = some (Jvm.Cond.code yX8_begin cX8_begin 3 none) := rfl
set_option maxRecDepth 20000 in
theorem gm_cw79 : gm_wd 809 = some (Jvm.Cond.code yX8_get cX8_get 3 (some .int)) := rfl
set_option maxRecDepth 20000 in
theorem gm_cw80 : gm_wd 527 = some (Jvm.Cond.code yX8_set cX8_set 4 none) := rfl
set_option maxRecDepth 20000 in
theorem gm_cw81 : gm_wd 531 = some (Jvm.Cond.code yX8_hush cX8_hush 2 none) := rfl
set_option maxRecDepth 20000 in
theorem gm_cw82 : gm_wd 813 = some (Jvm.Cond.code yX8_isSworn cX8_isSworn 2 (some .boolean)) := rfl
set_option maxRecDepth 20000 in
theorem gm_cw83 : gm_wd 818 = some (Jvm.Cond.code yX8_pleadsFor cX8_pleadsFor 4 (some .int)) := rfl
set_option maxRecDepth 20000 in
theorem gm_cw84 : gm_wd 821 = some (Jvm.Cond.code yX8_behind cX8_behind 2 (some .int)) := rfl
set_option maxRecDepth 20000 in
theorem gm_cw85 : gm_wd 962 = some (Jvm.Cond.code yX8_pay cX8_pay 3 none) := rfl
set_option maxRecDepth 20000 in
theorem gm_cw86 : gm_wd 1260 = some (Jvm.Cond.code yX8_paid cX8_paid 1 (some .int)) := rfl
set_option maxRecDepth 20000 in
theorem gm_cw87 : gm_wd 859 = some (Jvm.Cond.code yX8_day cX8_day 1 (some .int)) := rfl
set_option maxRecDepth 20000 in
theorem gm_cw88 : gm_wd 833 = some (Jvm.Cond.code yX8_fellTo cX8_fellTo 2 (some .int)) := rfl
set_option maxRecDepth 20000 in
theorem gm_cw89 : gm_wd 975 = some (Jvm.Cond.code yX8_fall cX8_fall 3 none) := rfl
set_option maxRecDepth 20000 in
theorem gm_cw90 : gm_wd 965 = some (Jvm.Cond.code yX9_part cX9_part 2 (some .long)) := rfl
set_option maxRecDepth 20000 in
theorem gm_cw91 : gm_wd 1011 = some (Jvm.Cond.code yX9_total cX9_total 3 (some .int)) := rfl
set_option maxRecDepth 20000 in
theorem gm_cw92 : gm_wd 1150 = some (Jvm.Cond.code yX9_speeches cX9_speeches 3 (some .int)) := rfl
set_option maxRecDepth 20000 in
theorem gm_cw93 : gm_wd 968 = some (Jvm.Cond.code yX9_winner cX9_winner 2 (some .int)) := rfl
set_option maxRecDepth 20000 in
theorem gm_cw94 : gm_wd 971 = some (Jvm.Cond.code yX9_greatestBut cX9_greatestBut 10 (some .int)) := rfl
set_option maxRecDepth 20000 in
theorem gm_cw95 : gm_wd 1147 = some (Jvm.Cond.code yX9_over cX9_over 4 (some .int)) := rfl
set_option maxRecDepth 20000 in
theorem gm_cw96 : gm_wd 1173 = some (Jvm.Cond.code yX9_lead cX9_lead 4 (some .int)) := rfl
set_option maxRecDepth 20000 in
theorem gm_cw97 : gm_wd 1158 = some (Jvm.Cond.code yX9_hundredfold cX9_hundredfold 5 (some .int)) := rfl
set_option maxRecDepth 20000 in
theorem gm_cw98 : gm_wd 1143 = some (Jvm.Cond.code yX9_least cX9_least 4 (some .int)) := rfl
set_option maxRecDepth 20000 in
theorem gm_cw99 : gm_wd 1155 = some (Jvm.Cond.code yX9_apart cX9_apart 4 (some .int)) := rfl
set_option maxRecDepth 20000 in
theorem gm_cw100 : gm_wd 1139 = some (Jvm.Cond.code yX9_apartExactly cX9_apartExactly 8 (some .int)) := rfl
set_option maxRecDepth 20000 in
theorem gm_cw101 : gm_wd 252 = some (Jvm.Cond.code yX10_init cX10_init 1 none) := rfl
set_option maxRecDepth 20000 in
theorem gm_cw102 : gm_wd 725 = some (Jvm.Cond.code yX10_add cX10_add 5 none) := rfl
set_option maxRecDepth 20000 in
theorem gm_cw103 : gm_wd 737 = some (Jvm.Cond.code yX10_kindAt cX10_kindAt 2 (some .int)) := rfl
set_option maxRecDepth 20000 in
theorem gm_cw104 : gm_wd 750 = some (Jvm.Cond.code yX10_valueAt cX10_valueAt 2 (some .long)) := rfl
set_option maxRecDepth 20000 in
theorem gm_cw105 : gm_wd 754 = some (Jvm.Cond.code yX10_placeAt cX10_placeAt 2 (some .int)) := rfl
set_option maxRecDepth 20000 in
theorem gm_cw106 : gm_wd 733 = some (Jvm.Cond.code yX10_tellAt cX10_tellAt 2 (some .int)) := rfl
set_option maxRecDepth 20000 in
theorem gm_cw107 : gm_wd 746 = some (Jvm.Cond.code yX10_isNameTwice cX10_isNameTwice 3 (some .boolean)) := rfl
set_option maxRecDepth 20000 in
theorem gm_cw108 : gm_wd 130 = some (Jvm.Cond.code yX11_init cX11_init 1 none) := rfl
set_option maxRecDepth 20000 in
theorem gm_cw109 : gm_wd 572 = some (Jvm.Cond.code yX11_feed cX11_feed 6 (some .int)) := rfl
set_option maxRecDepth 20000 in
theorem gm_cw110 : gm_wd 580 = some (Jvm.Cond.code yX11_back cX11_back 2 (some .int)) := rfl
set_option maxRecDepth 20000 in
theorem gm_cw111 : gm_wd 584 = some (Jvm.Cond.code yX11_read cX11_read 2 (some .int)) := rfl
set_option maxRecDepth 20000 in
theorem gm_cw112 : gm_wd 797 = some (Jvm.Cond.code yX11_place cX11_place 1 (some .int)) := rfl
set_option maxRecDepth 20000 in
theorem gm_cw113 : gm_wd 801 = some (Jvm.Cond.code yX11_man cX11_man 3 (some .int)) := rfl
set_option maxRecDepth 20000 in
theorem gm_cw114 : gm_wd 825 = some (Jvm.Cond.code yX11_motion cX11_motion 3 (some .int)) := rfl
set_option maxRecDepth 20000 in
theorem gm_cw115 : gm_wd 845 = some (Jvm.Cond.code yX11_argues cX11_argues 4 (some .int)) := rfl
set_option maxRecDepth 20000 in
theorem gm_cw116 : gm_wd 878 = some (Jvm.Cond.code yX11_mark cX11_mark 4 (some .int)) := rfl
set_option maxRecDepth 20000 in
theorem gm_cw117 : gm_wd 890 = some (Jvm.Cond.code yX11_sum cX11_sum 3 (some .int)) := rfl
set_option maxRecDepth 20000 in
theorem gm_cw118 : gm_wd 903 = some (Jvm.Cond.code yX11_speak cX11_speak 4 (some .boolean)) := rfl
set_option maxRecDepth 20000 in
theorem gm_cw119 : gm_wd 920 = some (Jvm.Cond.code yX11_praise cX11_praise 3 (some .int)) := rfl
set_option maxRecDepth 20000 in
theorem gm_cw120 : gm_wd 924 = some (Jvm.Cond.code yX11_reads cX11_reads 5 (some .int)) := rfl
set_option maxRecDepth 20000 in
theorem gm_cw121 : gm_wd 928 = some (Jvm.Cond.code yX11_swear cX11_swear 3 (some .boolean)) := rfl
set_option maxRecDepth 20000 in
theorem gm_cw122 : gm_wd 936 = some (Jvm.Cond.code yX11_session cX11_session 5 (some .int)) := rfl
set_option maxRecDepth 20000 in
theorem gm_cw123 : gm_wd 979 = some (Jvm.Cond.code yX11_undo cX11_undo 1 (some .boolean)) := rfl
set_option maxRecDepth 20000 in
theorem gm_cw124 : gm_wd 987 = some (Jvm.Cond.code yX11_now cX11_now 5 (some .int)) := rfl
set_option maxRecDepth 20000 in
theorem gm_cw125 : gm_wd 1015 = some (Jvm.Cond.code yX11_likely cX11_likely 4 (some .int)) := rfl
set_option maxRecDepth 20000 in
theorem gm_cw126 : gm_wd 1049 = some (Jvm.Cond.code yX11_change cX11_change 5 (some .int)) := rfl
set_option maxRecDepth 20000 in
theorem gm_cw127 : gm_wd 1077 = some (Jvm.Cond.code yX11_choose cX11_choose 4 (some .int)) := rfl
set_option maxRecDepth 20000 in
theorem gm_cw128 : gm_wd 1100 = some (Jvm.Cond.code yX11_chosen cX11_chosen 5 (some .int)) := rfl
set_option maxRecDepth 20000 in
theorem gm_cw129 : gm_wd 1104 = some (Jvm.Cond.code yX11_mumble cX11_mumble 3 (some .int)) := rfl
set_option maxRecDepth 20000 in
theorem gm_cw130 : gm_wd 1121 = some (Jvm.Cond.code yX11_jury cX11_jury 5 (some .int)) := rfl
set_option maxRecDepth 20000 in
theorem gm_cw131 : gm_wd 1162 = some (Jvm.Cond.code yX11_say cX11_say 4 (some .int)) := rfl
set_option maxRecDepth 20000 in
theorem gm_cw132 : gm_wd 1166 = some (Jvm.Cond.code yX11_fine cX11_fine 4 (some .int)) := rfl
set_option maxRecDepth 20000 in
theorem gm_cw133 : gm_wd 1170 = some (Jvm.Cond.code yX11_ahead cX11_ahead 2 (some .int)) := rfl
set_option maxRecDepth 20000 in
theorem gm_cw134 : gm_wd 1177 = some (Jvm.Cond.code yX11_harsh cX11_harsh 3 (some .int)) := rfl
set_option maxRecDepth 20000 in
theorem gm_cw135 : gm_wd 1186 = some (Jvm.Cond.code yX11_praiseFor cX11_praiseFor 8 (some .int)) := rfl
set_option maxRecDepth 20000 in
theorem gm_cw136 : gm_wd 1191 = some (Jvm.Cond.code yX11_old cX11_old 5 (some .int)) := rfl
set_option maxRecDepth 20000 in
theorem gm_cw137 : gm_wd 1195 = some (Jvm.Cond.code yX11_year cX11_year 6 (some .int)) := rfl
set_option maxRecDepth 20000 in
theorem gm_cw138 : gm_wd 1204 = some (Jvm.Cond.code yX11_tell cX11_tell 3 (some .int)) := rfl
set_option maxRecDepth 20000 in
theorem gm_cw139 : gm_wd 1208 = some (Jvm.Cond.code yX11_forget cX11_forget 2 (some .int)) := rfl
set_option maxRecDepth 20000 in
theorem gm_cw140 : gm_wd 1212 = some (Jvm.Cond.code yX11_slipped cX11_slipped 8 (some .int)) := rfl
set_option maxRecDepth 20000 in
theorem gm_cw141 : gm_wd 1227 = some (Jvm.Cond.code yX11_thinks cX11_thinks 6 (some .int)) := rfl
set_option maxRecDepth 20000 in
theorem gm_cw142 : gm_wd 1232 = some (Jvm.Cond.code yX11_hold cX11_hold 2 (some .boolean)) := rfl
set_option maxRecDepth 20000 in
theorem gm_cw143 : gm_wd 1240 = some (Jvm.Cond.code yX11_restore cX11_restore 2 (some .boolean)) := rfl
set_option maxRecDepth 20000 in
theorem gm_cw144 : gm_wd 1248 = some (Jvm.Cond.code yX11_count cX11_count 2 (some .int)) := rfl
set_option maxRecDepth 20000 in
theorem gm_cw145 : gm_wd 576 = some (Jvm.Cond.code yX11_putBytes cX11_putBytes 3 none) := rfl
set_option maxRecDepth 20000 in
theorem gm_cw146 : gm_wd 805 = some (Jvm.Cond.code yX11_isMan cX11_isMan 2 (some .boolean)) := rfl
set_option maxRecDepth 20000 in
theorem gm_cw147 : gm_wd 829 = some (Jvm.Cond.code yX11_isMotion cX11_isMotion 2 (some .boolean)) := rfl
set_option maxRecDepth 20000 in
theorem gm_cw148 : gm_wd 932 = some (Jvm.Cond.code yX11_isSide cX11_isSide 2 (some .boolean)) := rfl
set_option maxRecDepth 20000 in
theorem gm_cw149 : gm_wd 848 = some (Jvm.Cond.code yX11_isManner cX11_isManner 1 (some .boolean)) := rfl
set_option maxRecDepth 20000 in
theorem gm_cw150 : gm_wd 882 = some (Jvm.Cond.code yX11_isSilent cX11_isSilent 2 (some .boolean)) := rfl
set_option maxRecDepth 20000 in
theorem gm_cw151 : gm_wd 837 = some (Jvm.Cond.code yX11_speakersOn cX11_speakersOn 4 (some .int)) := rfl
set_option maxRecDepth 20000 in
theorem gm_cw152 : gm_wd 1252 = some (Jvm.Cond.code yX11_fallenMotions cX11_fallenMotions 3 (some .int)) := rfl
set_option maxRecDepth 20000 in
theorem gm_cw153 : gm_wd 1256 = some (Jvm.Cond.code yX11_swornMen cX11_swornMen 3 (some .int)) := rfl
set_option maxRecDepth 20000 in
theorem gm_cw154 : gm_wd 1268 = some (Jvm.Cond.code yX11_menWithSpeech cX11_menWithSpeech 3 (some .int)) := rfl
set_option maxRecDepth 20000 in
theorem gm_cw155 : gm_wd 1264 = some (Jvm.Cond.code yX11_overAll cX11_overAll 4 (some .int)) := rfl
set_option maxRecDepth 20000 in
theorem gm_cw156 : gm_wd 894 = some (Jvm.Cond.code yX11_totalOf cX11_totalOf 3 (some .int)) := rfl
set_option maxRecDepth 20000 in
theorem gm_cw157 : gm_wd 940 = some (Jvm.Cond.code yX11_hear cX11_hear 6 (some .long)) := rfl
set_option maxRecDepth 20000 in
theorem gm_cw158 : gm_wd 1216 = some (Jvm.Cond.code yX11_isKnown cX11_isKnown 4 (some .boolean)) := rfl
set_option maxRecDepth 20000 in
theorem gm_cw159 : gm_wd 1220 = some (Jvm.Cond.code yX11_isAsTold cX11_isAsTold 5 (some .boolean)) := rfl
set_option maxRecDepth 20000 in
theorem gm_cw160 : gm_wd 1223 = some (Jvm.Cond.code yX11_setBetween cX11_setBetween 5 (some .int)) := rfl
set_option maxRecDepth 20000 in
theorem gm_cw161 : gm_wd 1045 = some (Jvm.Cond.code yX11_lessened cX11_lessened 7 (some .int)) := rfl
set_option maxRecDepth 20000 in
theorem gm_cw162 : gm_wd 944 = some (Jvm.Cond.code yX11_lotOfTen cX11_lotOfTen 3 (some .int)) := rfl
set_option maxRecDepth 20000 in
theorem gm_cw163 : gm_wd 947 = some (Jvm.Cond.code yX11_stirred cX11_stirred 3 (some .int)) := rfl
set_option maxRecDepth 20000 in
theorem gm_cw164 : gm_wd 1273 = some (Jvm.Cond.code yX12_init cX12_init 1 none) := rfl
set_option maxRecDepth 20000 in
theorem gm_cw165 : gm_wd 1499 = some (Jvm.Cond.code yX12_feed cX12_feed 6 (some .int)) := rfl
set_option maxRecDepth 20000 in
theorem gm_cw166 : gm_wd 1503 = some (Jvm.Cond.code yX12_put cX12_put 3 none) := rfl
set_option maxRecDepth 20000 in
theorem gm_cw167 : gm_wd 1507 = some (Jvm.Cond.code yX12_back cX12_back 2 (some .int)) := rfl
set_option maxRecDepth 20000 in
theorem gm_cw168 : gm_wd 1519 = some (Jvm.Cond.code yX12_byteAt cX12_byteAt 2 (some .int)) := rfl
set_option maxRecDepth 20000 in
theorem gm_cw169 : gm_wd 1529 = some (Jvm.Cond.code yX12_isDigit cX12_isDigit 1 (some .boolean)) := rfl
set_option maxRecDepth 20000 in
theorem gm_cw170 : gm_wd 1526 = some (Jvm.Cond.code yX12_isLetter cX12_isLetter 1 (some .boolean)) := rfl
set_option maxRecDepth 20000 in
theorem gm_cw171 : gm_wd 1284 = some (Jvm.Cond.code yX12_appends cX12_appends 3 (some .long)) := rfl
set_option maxRecDepth 20000 in
theorem gm_cw172 : gm_wd 1281 = some (Jvm.Cond.code yX12_word cX12_word 7 (some .long)) := rfl
set_option maxRecDepth 20000 in
theorem gm_cw173 : gm_wd 1523 = some (Jvm.Cond.code yX12_token cX12_token 6 none) := rfl
set_option maxRecDepth 20000 in
theorem gm_cw174 : gm_wd 1515 = some (Jvm.Cond.code yX12_cut cX12_cut 8 none) := rfl
set_option maxRecDepth 20000 in
theorem gm_cw175 : gm_wd 1533 = some (Jvm.Cond.code yX12_sign cX12_sign 5 (some .int)) := rfl
set_option maxRecDepth 20000 in
theorem gm_cw176 : gm_wd 1537 = some (Jvm.Cond.code yX12_is cX12_is 2 (some .boolean)) := rfl
set_option maxRecDepth 20000 in
theorem gm_cw177 : gm_wd 1549 = some (Jvm.Cond.code yX12_fail cX12_fail 2 none) := rfl
set_option maxRecDepth 20000 in
theorem gm_cw178 : gm_wd 1557 = some (Jvm.Cond.code yX12_wrong cX12_wrong 4 none) := rfl
set_option maxRecDepth 20000 in
theorem gm_cw179 : gm_wd 1545 = some (Jvm.Cond.code yX12_goesOn cX12_goesOn 1 none) := rfl
set_option maxRecDepth 20000 in
theorem gm_cw180 : gm_wd 1561 = some (Jvm.Cond.code yX12_must cX12_must 2 none) := rfl
set_option maxRecDepth 20000 in
theorem gm_cw181 : gm_wd 1278 = some (Jvm.Cond.code yX12_plain cX12_plain 3 none) := rfl
set_option maxRecDepth 20000 in
theorem gm_cw182 : gm_wd 1511 = some (Jvm.Cond.code yX12_read cX12_read 2 (some .int)) := rfl
set_option maxRecDepth 20000 in
theorem gm_cw183 : gm_wd 1617 = some (Jvm.Cond.code yX12_place cX12_place 1 (some .int)) := rfl
set_option maxRecDepth 20000 in
theorem gm_cw184 : gm_wd 1613 = some (Jvm.Cond.code yX12_areSides cX12_areSides 2 (some .boolean)) := rfl
set_option maxRecDepth 20000 in
theorem gm_cw185 : gm_wd 1565 = some (Jvm.Cond.code yX12_roomFor cX12_roomFor 3 none) := rfl
set_option maxRecDepth 20000 in
theorem gm_cw186 : gm_wd 1541 = some (Jvm.Cond.code yX12_tellOne cX12_tellOne 2 none) := rfl
set_option maxRecDepth 20000 in
theorem gm_cw187 : gm_wd 1573 = some (Jvm.Cond.code yX12_named cX12_named 3 (some .int)) := rfl
set_option maxRecDepth 20000 in
theorem gm_cw188 : gm_wd 1577 = some (Jvm.Cond.code yX12_ends cX12_ends 2 none) := rfl
set_option maxRecDepth 20000 in
theorem gm_cw189 : gm_wd 1553 = some (Jvm.Cond.code yX12_bounded cX12_bounded 4 (some .int)) := rfl
set_option maxRecDepth 20000 in
theorem gm_cw190 : gm_wd 1569 = some (Jvm.Cond.code yX12_tellMan cX12_tellMan 3 none) := rfl
set_option maxRecDepth 20000 in
theorem gm_cw191 : gm_wd 1581 = some (Jvm.Cond.code yX12_tellMotion cX12_tellMotion 4 none) := rfl
set_option maxRecDepth 20000 in
theorem gm_cw192 : gm_wd 1585 = some (Jvm.Cond.code yX12_tellJuror cX12_tellJuror 2 none) := rfl
set_option maxRecDepth 20000 in
theorem gm_cw193 : gm_wd 1589 = some (Jvm.Cond.code yX12_tellLaw cX12_tellLaw 4 none) := rfl
set_option maxRecDepth 20000 in
theorem gm_cw194 : gm_wd 1609 = some (Jvm.Cond.code yX12_term cX12_term 1 none) := rfl
set_option maxRecDepth 20000 in
theorem gm_cw195 : gm_wd 1601 = some (Jvm.Cond.code yX12_emit cX12_emit 3 none) := rfl
set_option maxRecDepth 20000 in
theorem gm_cw196 : gm_wd 1605 = some (Jvm.Cond.code yX12_comesOut cX12_comesOut 3 none) := rfl
set_option maxRecDepth 20000 in
theorem gm_cw197 : gm_wd 1593 = some (Jvm.Cond.code yX12_expression cX12_expression 3 none) := rfl
set_option maxRecDepth 20000 in
theorem gm_cw198 : gm_wd 1597 = some (Jvm.Cond.code yX12_unit cX12_unit 1 none) := rfl
set_option maxRecDepth 20000 in
theorem gm_cw199 : gm_wd 1672 = some (Jvm.Cond.code yX12_termOf cX12_termOf 8 (some .int)) := rfl
set_option maxRecDepth 20000 in
theorem gm_cw200 : gm_wd 1628 = some (Jvm.Cond.code yX12_in cX12_in 3 (some .boolean)) := rfl
set_option maxRecDepth 20000 in
theorem gm_cw201 : gm_wd 1791 = some (Jvm.Cond.code yX12_bits cX12_bits 3 (some .int)) := rfl
set_option maxRecDepth 20000 in
theorem gm_cw202 : gm_wd 1625 = some (Jvm.Cond.code yX12_isMan cX12_isMan 2 (some .boolean)) := rfl
set_option maxRecDepth 20000 in
theorem gm_cw203 : gm_wd 1644 = some (Jvm.Cond.code yX12_isMotion cX12_isMotion 2 (some .boolean)) := rfl
set_option maxRecDepth 20000 in
theorem gm_cw204 : gm_wd 1724 = some (Jvm.Cond.code yX12_isSide cX12_isSide 2 (some .boolean)) := rfl
set_option maxRecDepth 20000 in
theorem gm_cw205 : gm_wd 1289 = some (Jvm.Cond.code yX12_begins cX12_begins 2 none) := rfl
set_option maxRecDepth 20000 in
theorem gm_cw206 : gm_wd 1293 = some (Jvm.Cond.code yX12_keepsRow cX12_keepsRow 2 none) := rfl
set_option maxRecDepth 20000 in
theorem gm_cw207 : gm_wd 1632 = some (Jvm.Cond.code yX12_copies cX12_copies 2 none) := rfl
set_option maxRecDepth 20000 in
theorem gm_cw208 : gm_wd 1743 = some (Jvm.Cond.code yX12_mixed cX12_mixed 3 (some .int)) := rfl
set_option maxRecDepth 20000 in
theorem gm_cw209 : gm_wd 1740 = some (Jvm.Cond.code yX12_slips cX12_slips 2 (some .boolean)) := rfl
set_option maxRecDepth 20000 in
theorem gm_cw210 : gm_wd 1636 = some (Jvm.Cond.code yX12_pleadsFor cX12_pleadsFor 2 (some .int)) := rfl
set_option maxRecDepth 20000 in
theorem gm_cw211 : gm_wd 1660 = some (Jvm.Cond.code yX12_looks cX12_looks 4 none) := rfl
set_option maxRecDepth 20000 in
theorem gm_cw212 : gm_wd 1664 = some (Jvm.Cond.code yX12_asks cX12_asks 7 (some .int)) := rfl
set_option maxRecDepth 20000 in
theorem gm_cw213 : gm_wd 1668 = some (Jvm.Cond.code yX12_lawTells cX12_lawTells 5 (some .int)) := rfl
set_option maxRecDepth 20000 in
theorem gm_cw214 : gm_wd 1656 = some (Jvm.Cond.code yX12_goodOf cX12_goodOf 4 (some .int)) := rfl
set_option maxRecDepth 20000 in
theorem gm_cw215 : gm_wd 1680 = some (Jvm.Cond.code yX12_goodNow cX12_goodNow 3 (some .int)) := rfl
set_option maxRecDepth 20000 in
theorem gm_cw216 : gm_wd 1684 = some (Jvm.Cond.code yX12_markBy cX12_markBy 7 (some .int)) := rfl
set_option maxRecDepth 20000 in
theorem gm_cw217 : gm_wd 1696 = some (Jvm.Cond.code yX12_sumBy cX12_sumBy 8 (some .int)) := rfl
set_option maxRecDepth 20000 in
theorem gm_cw218 : gm_wd 1692 = some (Jvm.Cond.code yX12_sumNow cX12_sumNow 3 (some .int)) := rfl
set_option maxRecDepth 20000 in
theorem gm_cw219 : gm_wd 1648 = some (Jvm.Cond.code yX12_speakers cX12_speakers 4 (some .int)) := rfl
set_option maxRecDepth 20000 in
theorem gm_cw220 : gm_wd 1752 = some (Jvm.Cond.code yX12_fillsSums cX12_fillsSums 7 none) := rfl
set_option maxRecDepth 20000 in
theorem gm_cw221 : gm_wd 1760 = some (Jvm.Cond.code yX12_meanOf cX12_meanOf 2 (some .int)) := rfl
set_option maxRecDepth 20000 in
theorem gm_cw222 : gm_wd 1756 = some (Jvm.Cond.code yX12_bestSide cX12_bestSide 3 (some .int)) := rfl
set_option maxRecDepth 20000 in
theorem gm_cw223 : gm_wd 1748 = some (Jvm.Cond.code yX12_fallsTo cX12_fallsTo 3 (some .int)) := rfl
set_option maxRecDepth 20000 in
theorem gm_cw224 : gm_wd 1764 = some (Jvm.Cond.code yX12_fineOf cX12_fineOf 5 (some .int)) := rfl
set_option maxRecDepth 20000 in
theorem gm_cw225 : gm_wd 1704 = some (Jvm.Cond.code yX12_silences cX12_silences 2 none) := rfl
set_option maxRecDepth 20000 in
theorem gm_cw226 : gm_wd 1736 = some (Jvm.Cond.code yX12_sits cX12_sits 8 (some .int)) := rfl
set_option maxRecDepth 20000 in
theorem gm_cw227 : gm_wd 1621 = some (Jvm.Cond.code yX12_man cX12_man 3 (some .int)) := rfl
set_option maxRecDepth 20000 in
theorem gm_cw228 : gm_wd 1640 = some (Jvm.Cond.code yX12_motion cX12_motion 3 (some .int)) := rfl
set_option maxRecDepth 20000 in
theorem gm_cw229 : gm_wd 1652 = some (Jvm.Cond.code yX12_argues cX12_argues 4 (some .int)) := rfl
set_option maxRecDepth 20000 in
theorem gm_cw230 : gm_wd 1676 = some (Jvm.Cond.code yX12_mark cX12_mark 4 (some .int)) := rfl
set_option maxRecDepth 20000 in
theorem gm_cw231 : gm_wd 1688 = some (Jvm.Cond.code yX12_sum cX12_sum 3 (some .int)) := rfl
set_option maxRecDepth 20000 in
theorem gm_cw232 : gm_wd 1708 = some (Jvm.Cond.code yX12_keeps cX12_keeps 2 none) := rfl
set_option maxRecDepth 20000 in
theorem gm_cw233 : gm_wd 1700 = some (Jvm.Cond.code yX12_speak cX12_speak 4 (some .boolean)) := rfl
set_option maxRecDepth 20000 in
theorem gm_cw234 : gm_wd 1712 = some (Jvm.Cond.code yX12_praise cX12_praise 2 (some .int)) := rfl
set_option maxRecDepth 20000 in
theorem gm_cw235 : gm_wd 1716 = some (Jvm.Cond.code yX12_reads cX12_reads 4 (some .int)) := rfl
set_option maxRecDepth 20000 in
theorem gm_cw236 : gm_wd 1728 = some (Jvm.Cond.code yX12_swears cX12_swears 3 none) := rfl
set_option maxRecDepth 20000 in
theorem gm_cw237 : gm_wd 1720 = some (Jvm.Cond.code yX12_swear cX12_swear 3 (some .boolean)) := rfl
set_option maxRecDepth 20000 in
theorem gm_cw238 : gm_wd 1732 = some (Jvm.Cond.code yX12_session cX12_session 3 (some .int)) := rfl
set_option maxRecDepth 20000 in
theorem gm_cw239 : gm_wd 1768 = some (Jvm.Cond.code yX12_undo cX12_undo 2 (some .boolean)) := rfl
set_option maxRecDepth 20000 in
theorem gm_cw240 : gm_wd 1772 = some (Jvm.Cond.code yX12_now cX12_now 3 (some .int)) := rfl
set_option maxRecDepth 20000 in
theorem gm_cw241 : gm_wd 1797 = some (Jvm.Cond.code yX12_common cX12_common 5 (some .int)) := rfl
set_option maxRecDepth 20000 in
theorem gm_cw242 : gm_wd 1794 = some (Jvm.Cond.code yX12_tens cX12_tens 3 (some .int)) := rfl
set_option maxRecDepth 20000 in
theorem gm_cw243 : gm_wd 1784 = some (Jvm.Cond.code yX12_oftenFalls cX12_oftenFalls 8 (some .int)) := rfl
set_option maxRecDepth 20000 in
theorem gm_cw244 : gm_wd 1788 = some (Jvm.Cond.code yX12_lineOf cX12_lineOf 6 (some .int)) := rfl
set_option maxRecDepth 20000 in
theorem gm_cw245 : gm_wd 1780 = some (Jvm.Cond.code yX12_isAsked cX12_isAsked 3 (some .boolean)) := rfl
set_option maxRecDepth 20000 in
theorem gm_cw246 : gm_wd 1776 = some (Jvm.Cond.code yX12_likely cX12_likely 4 (some .int)) := rfl
set_option maxRecDepth 20000 in
theorem gm_cw247 : gm_wd 1801 = some (Jvm.Cond.code yX12_change cX12_change 8 (some .int)) := rfl
set_option maxRecDepth 20000 in
theorem gm_cw248 : gm_wd 1813 = some (Jvm.Cond.code yX12_setsManners cX12_setsManners 3 none) := rfl
set_option maxRecDepth 20000 in
theorem gm_cw249 : gm_wd 1809 = some (Jvm.Cond.code yX12_fillsChosen cX12_fillsChosen 5 none) := rfl
set_option maxRecDepth 20000 in
theorem gm_cw250 : gm_wd 1805 = some (Jvm.Cond.code yX12_choose cX12_choose 4 (some .int)) := rfl
set_option maxRecDepth 20000 in
theorem gm_cw251 : gm_wd 1817 = some (Jvm.Cond.code yX12_chosen cX12_chosen 4 (some .int)) := rfl
set_option maxRecDepth 20000 in
theorem gm_cw252 : gm_wd 1829 = some (Jvm.Cond.code yX12_hasBy cX12_hasBy 4 (some .int)) := rfl
set_option maxRecDepth 20000 in
theorem gm_cw253 : gm_wd 1825 = some (Jvm.Cond.code yX12_isResting cX12_isResting 5 (some .boolean)) := rfl
set_option maxRecDepth 20000 in
theorem gm_cw254 : gm_wd 1821 = some (Jvm.Cond.code yX12_mumble cX12_mumble 6 (some .int)) := rfl
set_option maxRecDepth 20000 in
theorem gm_cw255 : gm_wd 1837 = some (Jvm.Cond.code yX12_apartNow cX12_apartNow 5 (some .int)) := rfl
set_option maxRecDepth 20000 in
theorem gm_cw256 : gm_wd 1833 = some (Jvm.Cond.code yX12_jury cX12_jury 8 (some .int)) := rfl
set_option maxRecDepth 20000 in
theorem gm_cw257 : gm_wd 1841 = some (Jvm.Cond.code yX12_say cX12_say 4 (some .int)) := rfl
set_option maxRecDepth 20000 in
theorem gm_cw258 : gm_wd 1845 = some (Jvm.Cond.code yX12_fine cX12_fine 3 (some .int)) := rfl
set_option maxRecDepth 20000 in
theorem gm_cw259 : gm_wd 1849 = some (Jvm.Cond.code yX12_ahead cX12_ahead 5 (some .int)) := rfl
set_option maxRecDepth 20000 in
theorem gm_cw260 : gm_wd 1857 = some (Jvm.Cond.code yX12_givenBy cX12_givenBy 5 (some .int)) := rfl
set_option maxRecDepth 20000 in
theorem gm_cw261 : gm_wd 1853 = some (Jvm.Cond.code yX12_harsh cX12_harsh 5 (some .int)) := rfl
set_option maxRecDepth 20000 in
theorem gm_cw262 : gm_wd 1861 = some (Jvm.Cond.code yX12_praiseFor cX12_praiseFor 5 (some .int)) := rfl
set_option maxRecDepth 20000 in
theorem gm_cw263 : gm_wd 1865 = some (Jvm.Cond.code yX12_old cX12_old 3 (some .int)) := rfl
set_option maxRecDepth 20000 in
theorem gm_cw264 : gm_wd 1869 = some (Jvm.Cond.code yX12_year cX12_year 6 (some .int)) := rfl
set_option maxRecDepth 20000 in
theorem gm_cw265 : gm_wd 1873 = some (Jvm.Cond.code yX12_tell cX12_tell 3 (some .int)) := rfl
set_option maxRecDepth 20000 in
theorem gm_cw266 : gm_wd 1877 = some (Jvm.Cond.code yX12_forget cX12_forget 2 (some .int)) := rfl
set_option maxRecDepth 20000 in
theorem gm_cw267 : gm_wd 1889 = some (Jvm.Cond.code yX12_isSo cX12_isSo 5 (some .boolean)) := rfl
set_option maxRecDepth 20000 in
theorem gm_cw268 : gm_wd 1885 = some (Jvm.Cond.code yX12_speakingAll cX12_speakingAll 3 (some .int)) := rfl
set_option maxRecDepth 20000 in
theorem gm_cw269 : gm_wd 1881 = some (Jvm.Cond.code yX12_slipped cX12_slipped 8 (some .int)) := rfl
set_option maxRecDepth 20000 in
theorem gm_cw270 : gm_wd 1893 = some (Jvm.Cond.code yX12_thinks cX12_thinks 5 (some .int)) := rfl
set_option maxRecDepth 20000 in
theorem gm_cw271 : gm_wd 1897 = some (Jvm.Cond.code yX12_hold cX12_hold 3 (some .boolean)) := rfl
set_option maxRecDepth 20000 in
theorem gm_cw272 : gm_wd 1901 = some (Jvm.Cond.code yX12_restore cX12_restore 3 (some .boolean)) := rfl
set_option maxRecDepth 20000 in
theorem gm_cw273 : gm_wd 1905 = some (Jvm.Cond.code yX12_count cX12_count 4 (some .int)) := rfl
set_option maxRecDepth 20000 in
theorem gm_cw274 : gm_wd 671 = some (Jvm.Cond.code yJ11_isValidCodePoint_9a6ad cJ11_isValidCodePoint_9a6ad 2 (some .boolean)) := rfl
set_option maxRecDepth 20000 in
theorem gm_cw275 : gm_wd 674 = some (Jvm.Cond.code yJ11_highSurrogate_5068e cJ11_highSurrogate_5068e 1 (some .char)) := rfl
set_option maxRecDepth 20000 in
theorem gm_cw276 : gm_wd 678 = some (Jvm.Cond.code yJ11_lowSurrogate_5068e cJ11_lowSurrogate_5068e 1 (some .char)) := rfl
set_option maxRecDepth 20000 in
theorem gm_cw277 : gm_wd 1036 = some (Jvm.Cond.code yJ6_numberOfTrailingZeros_0f7a4 cJ6_numberOfTrailingZeros_0f7a4 2 (some .int)) := rfl
set_option maxRecDepth 20000 in
theorem gm_cw278 : gm_wd 1065 = some (Jvm.Cond.code yJ6_bitCount_0f7a4 cJ6_bitCount_0f7a4 1 (some .int)) := rfl
set_option maxRecDepth 20000 in
theorem gm_cw279 : gm_wd 638 = some (Jvm.Cond.code yJ9_max_7cf53 cJ9_max_7cf53 2 (some .int)) := rfl
set_option maxRecDepth 20000 in
theorem gm_cw280 : gm_wd 641 = some (Jvm.Cond.code yJ9_min_7cf53 cJ9_min_7cf53 2 (some .int)) := rfl
set_option maxRecDepth 20000 in
theorem gm_cw281 : gm_wd 150 = some (Jvm.Cond.code yJ0_length_8abf5 cJ0_length_8abf5 1 (some .int)) := rfl
set_option maxRecDepth 20000 in
theorem gm_cw282 : gm_wd 160 = some (Jvm.Cond.code yJ0_charAt_5068e cJ0_charAt_5068e 2 (some .char)) := rfl
set_option maxRecDepth 20000 in
theorem gm_cw283 : gm_wd 624 = some (Jvm.Cond.code yJ0_indexOf_0f7a4 cJ0_indexOf_0f7a4 2 (some .int)) := rfl
set_option maxRecDepth 20000 in
theorem gm_cw284 : gm_wd 628 = some (Jvm.Cond.code yJ0_indexOf_7cf53 cJ0_indexOf_7cf53 3 (some .int)) := rfl
set_option maxRecDepth 20000 in
theorem gm_cw285 : gm_wd 154 = some (Jvm.Cond.code yJ0_coder_7d493 cJ0_coder_7d493 1 (some .byte)) := rfl
set_option maxRecDepth 20000 in
theorem gm_cw286 : gm_wd 164 = some (Jvm.Cond.code yJ0_isLatin1_aae02 cJ0_isLatin1_aae02 1 (some .boolean)) := rfl
set_option maxRecDepth 20000 in
theorem gm_cw287 : gm_wd 170 = some (Jvm.Cond.code yJ0_checkIndex_df160 cJ0_checkIndex_df160 2 none) := rfl
set_option maxRecDepth 20000 in
theorem gm_cw288 : gm_wd 659 = some (Jvm.Cond.code yJ0_checkBoundsBeginEnd_23922 cJ0_checkBoundsBeginEnd_23922 3 none) := rfl
set_option maxRecDepth 20000 in
theorem gm_cw289 : gm_wd 167 = some (Jvm.Cond.code yJ1_charAt_3b067 cJ1_charAt_3b067 2 (some .char)) := rfl
set_option maxRecDepth 20000 in
theorem gm_cw290 : gm_wd 635 = some (Jvm.Cond.code yJ1_canEncode_9a6ad cJ1_canEncode_9a6ad 1 (some .boolean)) := rfl
set_option maxRecDepth 20000 in
theorem gm_cw291 : gm_wd 632 = some (Jvm.Cond.code yJ1_indexOf_4cfef cJ1_indexOf_4cfef 4 (some .int)) := rfl
set_option maxRecDepth 20000 in
theorem gm_cw292 : gm_wd 644 = some (Jvm.Cond.code yJ1_indexOfChar_4cfef cJ1_indexOfChar_4cfef 6 (some .int)) := rfl
set_option maxRecDepth 20000 in
theorem gm_cw293 : gm_wd 188 = some (Jvm.Cond.code yJ2_getChar_3b067 cJ2_getChar_3b067 2 (some .char)) := rfl
set_option maxRecDepth 20000 in
theorem gm_cw294 : gm_wd 184 = some (Jvm.Cond.code yJ2_length_9d52b cJ2_length_9d52b 1 (some .int)) := rfl
set_option maxRecDepth 20000 in
theorem gm_cw295 : gm_wd 647 = some (Jvm.Cond.code yJ2_indexOf_4cfef cJ2_indexOf_4cfef 4 (some .int)) := rfl
set_option maxRecDepth 20000 in
theorem gm_cw296 : gm_wd 653 = some (Jvm.Cond.code yJ2_indexOfChar_4cfef cJ2_indexOfChar_4cfef 4 (some .int)) := rfl
set_option maxRecDepth 20000 in
theorem gm_cw297 : gm_wd 665 = some (Jvm.Cond.code yJ2_indexOfCharUnsafe_4cfef cJ2_indexOfCharUnsafe_4cfef 5 (some .int)) := rfl
set_option maxRecDepth 20000 in
theorem gm_cw298 : gm_wd 668 = some (Jvm.Cond.code yJ2_indexOfSupplementary_4cfef cJ2_indexOfSupplementary_4cfef 7 (some .int)) := rfl
set_option maxRecDepth 20000 in
theorem gm_cw299 : gm_wd 178 = some (Jvm.Cond.code yJ2_charAt_3b067 cJ2_charAt_3b067 2 (some .char)) := rfl
set_option maxRecDepth 20000 in
theorem gm_cw300 : gm_wd 181 = some (Jvm.Cond.code yJ2_checkIndex_2214a cJ2_checkIndex_2214a 2 none) := rfl
set_option maxRecDepth 20000 in
theorem gm_cw301 : gm_wd 656 = some (Jvm.Cond.code yJ2_checkBoundsBeginEnd_d044e cJ2_checkBoundsBeginEnd_d044e 3 none) := rfl
set_option maxRecDepth 20000 in
theorem gm_cw302 : gm_wd 175 = some (Jvm.Cond.code yJ3_checkIndex_8e157 cJ3_checkIndex_8e157 3 (some .int)) := rfl
set_option maxRecDepth 20000 in
theorem gm_cw303 : gm_wd 662 = some (Jvm.Cond.code yJ3_checkFromToIndex_8c36e cJ3_checkFromToIndex_8c36e 4 (some .int)) := rfl
def gm_NTb (e : Nat × Nat × Nat × Nat × Nat × Nat) : Bool := match vwCl[e.2.2.1]?, gm_On[e.1]? with
  | some q, some on => decide (gm_wd e.2.2.2.1 = some (Jvm.Cond.classLink on e.2.1 q.1)) && decide (gm_wd e.2.2.2.2.1 = some (Jvm.Cond.instantiable q.1 q.2.2)) && decide (gm_wd e.2.2.2.2.2 = some (Jvm.Cond.initialized q.1))
  | _, _ => false
set_option maxRecDepth 100000 in
theorem gm_NT_ok : gm_NT.all gm_NTb = true := by decide +kernel
set_option maxRecDepth 100000 in
theorem gm_KT_ok : (gm_KT.all fun e => match gm_On[e.1]? with
  | some on => decide (gm_wd e.2.2.2 = some (Jvm.Cond.constant on e.2.1 e.2.2.1))
  | none => false) = true := by decide +kernel
set_option maxRecDepth 100000 in
theorem gm_LT_ok : (gm_LT.all fun e => match gm_On[e.1]? with
  | some on => decide (gm_wd e.2.2.2 = some (Jvm.Cond.constantLong on e.2.1 e.2.2.1))
  | none => false) = true := by decide +kernel
def gm_sn (id : Nat) : String := match id with
  | 1001 => "MOST"
  | 1002 => "NAMES"
  | 1003 => "INTS"
  | 1004 => "LOW"
  | _ => "HIGH"
set_option maxRecDepth 100000 in
theorem gm_ST_ok : (gm_ST.all fun e => match gm_On[e.1]? with
  | some on => decide (gm_wd e.2.2.2 = some (Jvm.Cond.fieldLinkNest on e.2.1 "WorseSenate" (gm_sn e.2.2.1) "[I" "WorseSenate")) && decide (1001 ≤ e.2.2.1) && decide (e.2.2.1 ≤ 1005)
  | none => false) = true := by decide +kernel
/-- the words that go into every method's specification -/
def gm_T : List Jvm.Cond := lw_tbl.filter goodWord
theorem gm_T_in {w : Jvm.Cond} (h : w ∈ lw_tbl) (hg : goodWord w = true) : w ∈ gm_T := List.mem_filter.mpr ⟨h, hg⟩
