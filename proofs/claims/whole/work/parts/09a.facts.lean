/-! the references as the constructors leave them; small facts: written by wip/whole/gen_eqs.py -/
def gm_RF (o k : Nat) : Option Nat := match o, k with
  | 0, 0 => some 1
  | 0, 3 => some 2
  | 0, 4 => some 11
  | 0, 5 => some 21
  | 0, 6 => some 23
  | 0, 7 => some 69
  | 0, 8 => some 71
  | 0, 9 => some 82
  | 0, 10 => some 83
  | 2, 0 => some 3
  | 2, 1 => some 5
  | 2, 2 => some 7
  | 3, 0 => some 4
  | 5, 0 => some 6
  | 7, 0 => some 8
  | 7, 1 => some 9
  | 7, 2 => some 10
  | 11, 5 => some 12
  | 11, 6 => some 13
  | 11, 7 => some 14
  | 11, 8 => some 15
  | 15, 0 => some 16
  | 15, 1 => some 17
  | 15, 2 => some 18
  | 15, 3 => some 19
  | 15, 4 => some 20
  | 21, 0 => some 22
  | 23, 0 => some 24
  | 23, 1 => some 65
  | 69, 0 => some 11
  | 69, 1 => some 70
  | 71, 0 => some 11
  | 71, 1 => some 21
  | 71, 2 => some 69
  | 71, 3 => some 72
  | 71, 6 => some 73
  | 71, 7 => some 74
  | 71, 8 => some 75
  | 71, 9 => some 76
  | 71, 10 => some 77
  | 71, 11 => some 78
  | 71, 13 => some 79
  | 71, 16 => some 80
  | 71, 17 => some 81
  | 84, 1 => some 85
  | 84, 3 => some 86
  | 84, 5 => some 87
  | 84, 6 => some 88
  | 84, 7 => some 89
  | 84, 8 => some 90
  | 84, 9 => some 91
  | 84, 21 => some 92
  | 84, 22 => some 93
  | 84, 23 => some 94
  | 84, 24 => some 95
  | 84, 25 => some 96
  | 84, 26 => some 97
  | 84, 27 => some 98
  | 84, 28 => some 99
  | 84, 29 => some 100
  | 84, 30 => some 101
  | 84, 31 => some 102
  | 84, 32 => some 103
  | 84, 33 => some 104
  | 84, 34 => some 105
  | 84, 36 => some 106
  | 84, 37 => some 107
  | 84, 38 => some 108
  | 84, 39 => some 109
  | 84, 40 => some 110
  | 84, 42 => some 111
  | 84, 43 => some 112
  | 84, 44 => some 113
  | 84, 46 => some 114
  | 84, 47 => some 115
  | 84, 49 => some 116
  | 84, 50 => some 117
  | 84, 52 => some 118
  | 84, 53 => some 119
  | 84, 55 => some 120
  | 84, 56 => some 121
  | 84, 60 => some 122
  | 84, 62 => some 123
  | 84, 63 => some 124
  | 84, 64 => some 125
  | 84, 65 => some 126
  | 84, 66 => some 127
  | 24, k => if k < 40 then some (25 + k) else none
  | 65, k => if k < 3 then some (66 + k) else none
  | _, _ => none
set_option maxRecDepth 20000 in
theorem k_X0_gather : gm_MT[1]? = some (0, yX0_gather, cX0_gather, 4, none, 5, 123, 0, 0, 0, 2) := rfl
theorem fY0_5 : gm_fy 0 5 = 0 := by decide +kernel
theorem fF0_19 : gm_f 0 19 = some (0, 0, 5, 467) := by decide +kernel
theorem fL71 : gm_LAY[71]? = some (0, 0) := by decide +kernel
theorem fN0_5 : gm_fin 0 5 = false := by decide +kernel
theorem fY0_4 : gm_fy 0 4 = 0 := by decide +kernel
theorem fF0_15 : gm_f 0 15 = some (0, 0, 4, 466) := by decide +kernel
theorem fN0_4 : gm_fin 0 4 = false := by decide +kernel
theorem fY0_0 : gm_fy 0 0 = 2 := by decide +kernel
theorem fF0_60 : gm_f 0 60 = some (0, 0, 0, 462) := by decide +kernel
theorem fR71_0 : gm_RF 71 0 = some 11 := rfl
theorem fY5_2 : gm_fy 5 2 = 0 := by decide +kernel
theorem fF0_72 : gm_f 0 72 = some (1, 5, 2, 335) := by decide +kernel
theorem fL11 : gm_LAY[11]? = some (0, 5) := by decide +kernel
theorem fY0_1 : gm_fy 0 1 = 2 := by decide +kernel
theorem fF0_64 : gm_f 0 64 = some (0, 0, 1, 463) := by decide +kernel
theorem fR71_1 : gm_RF 71 1 = some 21 := rfl
theorem fC0_79 : gm_c 0 79 = some (1, 79, 997, 812, 813) := by decide +kernel
set_option maxRecDepth 20000 in
theorem k_X8_get : gm_MT[79]? = some (8, yX8_get, cX8_get, 3, (some .int), 0, 0, 0, 0, 0, 2) := rfl
theorem fX_X8_get : vwCl.findIdx? (fun c => c.1 == (yX8_get).cls) = some 8 := by decide +kernel
theorem fs_X8_get : (yX8_get).cls ≠ "java/lang/String" := by decide +kernel
theorem fL21 : gm_LAY[21]? = some (0, 8) := by decide +kernel
theorem fY0_3 : gm_fy 0 3 = 2 := by decide +kernel
theorem fF0_9 : gm_f 0 9 = some (0, 0, 3, 465) := by decide +kernel
theorem fR71_3 : gm_RF 71 3 = some 72 := rfl
theorem fL72 : gm_LAY[72]? = some (1, 7) := by decide +kernel
theorem fC0_83 : gm_c 0 83 = some (1, 2, 998, 1000, 26) := by decide +kernel
set_option maxRecDepth 20000 in
theorem k_X0_takeSpeech : gm_MT[2]? = some (0, yX0_takeSpeech, cX0_takeSpeech, 2, none, 3, 67, 0, 0, 0, 1) := rfl
theorem fX_X0_takeSpeech : vwCl.findIdx? (fun c => c.1 == (yX0_takeSpeech).cls) = some 0 := by decide +kernel
theorem fs_X0_takeSpeech : (yX0_takeSpeech).cls ≠ "java/lang/String" := by decide +kernel
theorem fY0_6 : gm_fy 0 6 = 2 := by decide +kernel
theorem fF0_22 : gm_f 0 22 = some (0, 0, 6, 468) := by decide +kernel
theorem fR71_6 : gm_RF 71 6 = some 73 := rfl
theorem fY0_2 : gm_fy 0 2 = 2 := by decide +kernel
theorem fF0_68 : gm_f 0 68 = some (0, 0, 2, 464) := by decide +kernel
theorem fR71_2 : gm_RF 71 2 = some 69 := rfl
theorem fC0_87 : gm_c 0 87 = some (1, 74, 1003, 1004, 1005) := by decide +kernel
set_option maxRecDepth 20000 in
theorem k_X7_entry : gm_MT[74]? = some (7, yX7_entry, cX7_entry, 1, (some .long), 4, 103, 0, 0, 0, 0) := rfl
theorem fX_X7_entry : vwCl.findIdx? (fun c => c.1 == (yX7_entry).cls) = some 7 := by decide +kernel
theorem fs_X7_entry : (yX7_entry).cls ≠ "java/lang/String" := by decide +kernel
theorem fL69 : gm_LAY[69]? = some (0, 7) := by decide +kernel
theorem fL73 : gm_LAY[73]? = some (4, 7) := by decide +kernel
theorem fA72 : ∀ im : gm_I, gm_at im 128 72 = some (1, 7) := fun _ => rfl
theorem fC0_93 : gm_c 0 93 = some (1, 70, 1002, 855, 856) := by decide +kernel
set_option maxRecDepth 20000 in
theorem k_X7_take : gm_MT[70]? = some (7, yX7_take, cX7_take, 3, none, 2, 45, 0, 0, 0, 2) := rfl
theorem fX_X7_take : vwCl.findIdx? (fun c => c.1 == (yX7_take).cls) = some 7 := by decide +kernel
theorem fs_X7_take : (yX7_take).cls ≠ "java/lang/String" := by decide +kernel
theorem fY7_8 : gm_fy 7 8 = 0 := by decide +kernel
theorem fF0_97 : gm_f 0 97 = some (1, 7, 8, 427) := by decide +kernel
theorem fN7_8 : gm_fin 7 8 = false := by decide +kernel
set_option maxRecDepth 20000 in
theorem k_X0_asItIs : gm_MT[3]? = some (0, yX0_asItIs, cX0_asItIs, 4, (some .long), 0, 0, 0, 0, 0, 0) := rfl
theorem fA73 : ∀ im : gm_I, gm_at im 128 73 = some (4, 7) := fun _ => rfl
set_option maxRecDepth 20000 in
theorem k_X0_turnBySlip : gm_MT[4]? = some (0, yX0_turnBySlip, cX0_turnBySlip, 2, none, 5, 123, 0, 0, 0, 0) := rfl
theorem fY7_6 : gm_fy 7 6 = 0 := by decide +kernel
theorem fF0_98 : gm_f 0 98 = some (1, 7, 6, 422) := by decide +kernel
theorem fN7_6 : gm_fin 7 6 = false := by decide +kernel
theorem fY0_7 : gm_fy 0 7 = 2 := by decide +kernel
theorem fF0_26 : gm_f 0 26 = some (0, 0, 7, 469) := by decide +kernel
theorem fR71_7 : gm_RF 71 7 = some 74 := rfl
theorem fL74 : gm_LAY[74]? = some (4, 7) := by decide +kernel
set_option maxRecDepth 20000 in
theorem k_X0_turnByOath : gm_MT[5]? = some (0, yX0_turnByOath, cX0_turnByOath, 2, none, 5, 123, 0, 0, 0, 0) := rfl
theorem fY7_4 : gm_fy 7 4 = 0 := by decide +kernel
theorem fF0_101 : gm_f 0 101 = some (1, 7, 4, 416) := by decide +kernel
theorem fN7_4 : gm_fin 7 4 = false := by decide +kernel
theorem fY7_9 : gm_fy 7 9 = 0 := by decide +kernel
theorem fF0_104 : gm_f 0 104 = some (1, 7, 9, 429) := by decide +kernel
theorem fN7_9 : gm_fin 7 9 = false := by decide +kernel
set_option maxRecDepth 20000 in
theorem k_X0_turnByMumble : gm_MT[6]? = some (0, yX0_turnByMumble, cX0_turnByMumble, 2, none, 5, 123, 0, 0, 0, 0) := rfl
theorem fY7_5 : gm_fy 7 5 = 0 := by decide +kernel
theorem fF0_107 : gm_f 0 107 = some (1, 7, 5, 419) := by decide +kernel
theorem fN7_5 : gm_fin 7 5 = false := by decide +kernel
set_option maxRecDepth 20000 in
theorem k_X0_fillBags : gm_MT[7]? = some (0, yX0_fillBags, cX0_fillBags, 3, none, 1, 23, 0, 0, 0, 0) := rfl
theorem fY0_8 : gm_fy 0 8 = 2 := by decide +kernel
theorem fF0_29 : gm_f 0 29 = some (0, 0, 8, 470) := by decide +kernel
theorem fR71_8 : gm_RF 71 8 = some 75 := rfl
theorem fC0_110 : gm_c 0 110 = some (1, 3, 1038, 1011, 1012) := by decide +kernel
theorem fX_X0_asItIs : vwCl.findIdx? (fun c => c.1 == (yX0_asItIs).cls) = some 0 := by decide +kernel
theorem fs_X0_asItIs : (yX0_asItIs).cls ≠ "java/lang/String" := by decide +kernel
theorem fL75 : gm_LAY[75]? = some (4, 128) := by decide +kernel
theorem fC0_113 : gm_c 0 113 = some (0, 277, 1039, 1040, 0) := by decide +kernel
set_option maxRecDepth 20000 in
theorem k_J6_numberOfTrailingZeros_0f7a4 : gm_MT[277]? = some (15, yJ6_numberOfTrailingZeros_0f7a4, cJ6_numberOfTrailingZeros_0f7a4, 2, (some .int), 0, 0, 0, 0, 0, 1) := rfl
theorem fA75 : ∀ im : gm_I, gm_at im 128 75 = some (4, 128) := fun _ => rfl
theorem fA74 : ∀ im : gm_I, gm_at im 128 74 = some (4, 7) := fun _ => rfl
set_option maxRecDepth 20000 in
theorem k_X0_menOf : gm_MT[8]? = some (0, yX0_menOf, cX0_menOf, 4, (some .int), 0, 0, 0, 0, 0, 1) := rfl
set_option maxRecDepth 20000 in
theorem k_X0_weigh : gm_MT[9]? = some (0, yX0_weigh, cX0_weigh, 5, none, 2, 43, 0, 0, 0, 0) := rfl
theorem fC0_119 : gm_c 0 119 = some (1, 60, 1025, 955, 956) := by decide +kernel
set_option maxRecDepth 20000 in
theorem k_X5_slipOf : gm_MT[60]? = some (5, yX5_slipOf, cX5_slipOf, 2, (some .int), 1, 22, 0, 0, 0, 1) := rfl
theorem fX_X5_slipOf : vwCl.findIdx? (fun c => c.1 == (yX5_slipOf).cls) = some 5 := by decide +kernel
theorem fs_X5_slipOf : (yX5_slipOf).cls ≠ "java/lang/String" := by decide +kernel
theorem fY0_10 : gm_fy 0 10 = 2 := by decide +kernel
theorem fF0_35 : gm_f 0 35 = some (0, 0, 10, 472) := by decide +kernel
theorem fR71_10 : gm_RF 71 10 = some 77 := rfl
theorem fL77 : gm_LAY[77]? = some (1, 128) := by decide +kernel
set_option maxRecDepth 20000 in
theorem k_X0_allChances : gm_MT[10]? = some (0, yX0_allChances, cX0_allChances, 3, (some .int), 0, 0, 0, 0, 0, 0) := rfl
set_option maxRecDepth 20000 in
theorem k_X0_chanceOf : gm_MT[11]? = some (0, yX0_chanceOf, cX0_chanceOf, 4, (some .int), 2, 50, 0, 0, 0, 1) := rfl
theorem fC0_122 : gm_c 0 122 = some (1, 7, 1034, 1036, 27) := by decide +kernel
theorem fX_X0_fillBags : vwCl.findIdx? (fun c => c.1 == (yX0_fillBags).cls) = some 0 := by decide +kernel
theorem fs_X0_fillBags : (yX0_fillBags).cls ≠ "java/lang/String" := by decide +kernel
theorem fA77 : ∀ im : gm_I, gm_at im 128 77 = some (1, 128) := fun _ => rfl
theorem fC0_125 : gm_c 0 125 = some (0, 93, 1043, 972, 0) := by decide +kernel
set_option maxRecDepth 20000 in
theorem k_X9_winner : gm_MT[93]? = some (9, yX9_winner, cX9_winner, 2, (some .int), 1, 29, 0, 0, 0, 1) := rfl
set_option maxRecDepth 20000 in
theorem k_X0_whoChanges : gm_MT[12]? = some (0, yX0_whoChanges, cX0_whoChanges, 4, (some .int), 6, 144, 0, 0, 0, 1) := rfl
theorem fC0_131 : gm_c 0 131 = some (1, 5, 1059, 1061, 28) := by decide +kernel
theorem fX_X0_turnByOath : vwCl.findIdx? (fun c => c.1 == (yX0_turnByOath).cls) = some 0 := by decide +kernel
theorem fs_X0_turnByOath : (yX0_turnByOath).cls ≠ "java/lang/String" := by decide +kernel
theorem fC0_134 : gm_c 0 134 = some (1, 13, 1063, 1065, 29) := by decide +kernel
set_option maxRecDepth 20000 in
theorem k_X0_maySwear : gm_MT[13]? = some (0, yX0_maySwear, cX0_maySwear, 3, (some .boolean), 2, 43, 0, 0, 0, 1) := rfl
theorem fX_X0_maySwear : vwCl.findIdx? (fun c => c.1 == (yX0_maySwear).cls) = some 0 := by decide +kernel
theorem fs_X0_maySwear : (yX0_maySwear).cls ≠ "java/lang/String" := by decide +kernel
theorem fC0_138 : gm_c 0 138 = some (0, 278, 1068, 1069, 0) := by decide +kernel
set_option maxRecDepth 20000 in
theorem k_J6_bitCount_0f7a4 : gm_MT[278]? = some (15, yJ6_bitCount_0f7a4, cJ6_bitCount_0f7a4, 1, (some .int), 0, 0, 0, 0, 0, 1) := rfl
theorem fC0_141 : gm_c 0 141 = some (1, 8, 1074, 1076, 30) := by decide +kernel
theorem fX_X0_menOf : vwCl.findIdx? (fun c => c.1 == (yX0_menOf).cls) = some 0 := by decide +kernel
theorem fs_X0_menOf : (yX0_menOf).cls ≠ "java/lang/String" := by decide +kernel
theorem fC0_144 : gm_c 0 144 = some (1, 82, 1067, 816, 817) := by decide +kernel
set_option maxRecDepth 20000 in
theorem k_X8_isSworn : gm_MT[82]? = some (8, yX8_isSworn, cX8_isSworn, 2, (some .boolean), 1, 22, 0, 0, 0, 1) := rfl
theorem fX_X8_isSworn : vwCl.findIdx? (fun c => c.1 == (yX8_isSworn).cls) = some 8 := by decide +kernel
theorem fs_X8_isSworn : (yX8_isSworn).cls ≠ "java/lang/String" := by decide +kernel
set_option maxRecDepth 20000 in
theorem k_X0_pickManners : gm_MT[14]? = some (0, yX0_pickManners, cX0_pickManners, 5, (some .int), 6, 146, 0, 0, 0, 1) := rfl
theorem fC0_147 : gm_c 0 147 = some (1, 9, 1087, 1022, 1023) := by decide +kernel
theorem fX_X0_weigh : vwCl.findIdx? (fun c => c.1 == (yX0_weigh).cls) = some 0 := by decide +kernel
theorem fs_X0_weigh : (yX0_weigh).cls ≠ "java/lang/String" := by decide +kernel
theorem fC0_150 : gm_c 0 150 = some (1, 4, 1088, 1027, 1028) := by decide +kernel
theorem fX_X0_turnBySlip : vwCl.findIdx? (fun c => c.1 == (yX0_turnBySlip).cls) = some 0 := by decide +kernel
theorem fs_X0_turnBySlip : (yX0_turnBySlip).cls ≠ "java/lang/String" := by decide +kernel
theorem fC0_153 : gm_c 0 153 = some (1, 15, 1089, 1091, 31) := by decide +kernel
set_option maxRecDepth 20000 in
theorem k_X0_gatherPickers : gm_MT[15]? = some (0, yX0_gatherPickers, cX0_gatherPickers, 4, none, 5, 123, 0, 0, 0, 1) := rfl
theorem fX_X0_gatherPickers : vwCl.findIdx? (fun c => c.1 == (yX0_gatherPickers).cls) = some 0 := by decide +kernel
theorem fs_X0_gatherPickers : (yX0_gatherPickers).cls ≠ "java/lang/String" := by decide +kernel
theorem fY0_14 : gm_fy 0 14 = 0 := by decide +kernel
theorem fF0_48 : gm_f 0 48 = some (0, 0, 14, 476) := by decide +kernel
theorem fY0_13 : gm_fy 0 13 = 2 := by decide +kernel
theorem fF0_45 : gm_f 0 45 = some (0, 0, 13, 475) := by decide +kernel
theorem fR71_13 : gm_RF 71 13 = some 79 := rfl
theorem fA79 : ∀ im : gm_I, gm_at im 128 79 = some (1, 3) := fun _ => rfl
theorem fY0_16 : gm_fy 0 16 = 2 := by decide +kernel
theorem fF0_54 : gm_f 0 54 = some (0, 0, 16, 478) := by decide +kernel
theorem fR71_16 : gm_RF 71 16 = some 80 := rfl
theorem fC0_156 : gm_c 0 156 = some (1, 16, 1093, 1095, 32) := by decide +kernel
set_option maxRecDepth 20000 in
theorem k_X0_mannerIn : gm_MT[16]? = some (0, yX0_mannerIn, cX0_mannerIn, 3, (some .int), 0, 0, 0, 0, 0, 2) := rfl
theorem fX_X0_mannerIn : vwCl.findIdx? (fun c => c.1 == (yX0_mannerIn).cls) = some 0 := by decide +kernel
theorem fs_X0_mannerIn : (yX0_mannerIn).cls ≠ "java/lang/String" := by decide +kernel
theorem fA80 : ∀ im : gm_I, gm_at im 128 80 = some (4, 12) := fun _ => rfl
theorem fL80 : gm_LAY[80]? = some (4, 12) := by decide +kernel
theorem fY0_17 : gm_fy 0 17 = 2 := by decide +kernel
theorem fF0_57 : gm_f 0 57 = some (0, 0, 17, 479) := by decide +kernel
theorem fR71_17 : gm_RF 71 17 = some 81 := rfl
theorem fA81 : ∀ im : gm_I, gm_at im 128 81 = some (4, 12) := fun _ => rfl
theorem fL81 : gm_LAY[81]? = some (4, 12) := by decide +kernel
theorem fC0_159 : gm_c 0 159 = some (1, 11, 1097, 1031, 1032) := by decide +kernel
theorem fX_X0_chanceOf : vwCl.findIdx? (fun c => c.1 == (yX0_chanceOf).cls) = some 0 := by decide +kernel
theorem fs_X0_chanceOf : (yX0_chanceOf).cls ≠ "java/lang/String" := by decide +kernel
theorem fY0_15 : gm_fy 0 15 = 0 := by decide +kernel
theorem fF0_51 : gm_f 0 51 = some (0, 0, 15, 477) := by decide +kernel
theorem fN0_15 : gm_fin 0 15 = false := by decide +kernel
theorem fN0_14 : gm_fin 0 14 = false := by decide +kernel
theorem fL79 : gm_LAY[79]? = some (1, 3) := by decide +kernel
set_option maxRecDepth 20000 in
theorem k_X0_pickedManner : gm_MT[17]? = some (0, yX0_pickedManner, cX0_pickedManner, 2, (some .int), 1, 22, 0, 0, 0, 1) := rfl
set_option maxRecDepth 20000 in
theorem k_X0_rest : gm_MT[18]? = some (0, yX0_rest, cX0_rest, 5, (some .int), 6, 144, 0, 0, 0, 2) := rfl
theorem fC0_162 : gm_c 0 162 = some (1, 6, 1114, 1116, 33) := by decide +kernel
theorem fX_X0_turnByMumble : vwCl.findIdx? (fun c => c.1 == (yX0_turnByMumble).cls) = some 0 := by decide +kernel
theorem fs_X0_turnByMumble : (yX0_turnByMumble).cls ≠ "java/lang/String" := by decide +kernel
theorem fY0_9 : gm_fy 0 9 = 2 := by decide +kernel
theorem fF0_32 : gm_f 0 32 = some (0, 0, 9, 471) := by decide +kernel
theorem fR71_9 : gm_RF 71 9 = some 76 := rfl
theorem fL76 : gm_LAY[76]? = some (1, 128) := by decide +kernel
theorem fC0_165 : gm_c 0 165 = some (1, 19, 1118, 1120, 34) := by decide +kernel
set_option maxRecDepth 20000 in
theorem k_X0_isRest : gm_MT[19]? = some (0, yX0_isRest, cX0_isRest, 6, (some .boolean), 1, 22, 0, 0, 0, 2) := rfl
theorem fX_X0_isRest : vwCl.findIdx? (fun c => c.1 == (yX0_isRest).cls) = some 0 := by decide +kernel
theorem fs_X0_isRest : (yX0_isRest).cls ≠ "java/lang/String" := by decide +kernel
theorem fA76 : ∀ im : gm_I, gm_at im 128 76 = some (1, 128) := fun _ => rfl
theorem fC0_169 : gm_c 0 169 = some (1, 61, 1122, 844, 845) := by decide +kernel
set_option maxRecDepth 20000 in
theorem k_X5_worthOf : gm_MT[61]? = some (5, yX5_worthOf, cX5_worthOf, 3, (some .int), 0, 0, 0, 0, 0, 2) := rfl
theorem fX_X5_worthOf : vwCl.findIdx? (fun c => c.1 == (yX5_worthOf).cls) = some 5 := by decide +kernel
theorem fs_X5_worthOf : (yX5_worthOf).cls ≠ "java/lang/String" := by decide +kernel
set_option maxRecDepth 20000 in
theorem k_X0_gatherJurors : gm_MT[20]? = some (0, yX0_gatherJurors, cX0_gatherJurors, 6, none, 4, 88, 0, 0, 0, 0) := rfl
theorem fY0_12 : gm_fy 0 12 = 1 := by decide +kernel
theorem fF0_41 : gm_f 0 41 = some (0, 0, 12, 474) := by decide +kernel
theorem fN0_12 : gm_fin 0 12 = false := by decide +kernel
theorem fY5_4 : gm_fy 5 4 = 0 := by decide +kernel
theorem fF0_172 : gm_f 0 172 = some (1, 5, 4, 342) := by decide +kernel
theorem fY0_11 : gm_fy 0 11 = 2 := by decide +kernel
theorem fF0_38 : gm_f 0 38 = some (0, 0, 11, 473) := by decide +kernel
theorem fR71_11 : gm_RF 71 11 = some 78 := rfl
theorem fL78 : gm_LAY[78]? = some (4, 8) := by decide +kernel
theorem fC0_175 : gm_c 0 175 = some (1, 71, 1131, 867, 868) := by decide +kernel
set_option maxRecDepth 20000 in
theorem k_X7_goodness : gm_MT[71]? = some (7, yX7_goodness, cX7_goodness, 1, (some .int), 2, 57, 0, 0, 0, 0) := rfl
theorem fX_X7_goodness : vwCl.findIdx? (fun c => c.1 == (yX7_goodness).cls) = some 7 := by decide +kernel
theorem fs_X7_goodness : (yX7_goodness).cls ≠ "java/lang/String" := by decide +kernel
theorem fC0_179 : gm_c 0 179 = some (0, 90, 1132, 969, 0) := by decide +kernel
set_option maxRecDepth 20000 in
theorem k_X9_part : gm_MT[90]? = some (9, yX9_part, cX9_part, 2, (some .long), 0, 0, 0, 0, 0, 2) := rfl
theorem fA78 : ∀ im : gm_I, gm_at im 128 78 = some (4, 8) := fun _ => rfl
theorem fC0_183 : gm_c 0 183 = some (1, 72, 1133, 889, 890) := by decide +kernel
set_option maxRecDepth 20000 in
theorem k_X7_markBy : gm_MT[72]? = some (7, yX7_markBy, cX7_markBy, 4, (some .int), 2, 57, 0, 0, 0, 2) := rfl
theorem fX_X7_markBy : vwCl.findIdx? (fun c => c.1 == (yX7_markBy).cls) = some 7 := by decide +kernel
theorem fs_X7_markBy : (yX7_markBy).cls ≠ "java/lang/String" := by decide +kernel
set_option maxRecDepth 20000 in
theorem k_X0_bagOf : gm_MT[21]? = some (0, yX0_bagOf, cX0_bagOf, 5, (some .long), 0, 0, 0, 0, 0, 1) := rfl
set_option maxRecDepth 20000 in
theorem k_X0_fairest : gm_MT[22]? = some (0, yX0_fairest, cX0_fairest, 6, (some .int), 4, 95, 0, 0, 0, 1) := rfl
theorem fC0_186 : gm_c 0 186 = some (1, 21, 1138, 1139, 1140) := by decide +kernel
theorem fX_X0_bagOf : vwCl.findIdx? (fun c => c.1 == (yX0_bagOf).cls) = some 0 := by decide +kernel
theorem fs_X0_bagOf : (yX0_bagOf).cls ≠ "java/lang/String" := by decide +kernel
theorem fC0_190 : gm_c 0 190 = some (0, 100, 1142, 1143, 0) := by decide +kernel
set_option maxRecDepth 20000 in
theorem k_X9_apartExactly : gm_MT[100]? = some (9, yX9_apartExactly, cX9_apartExactly, 8, (some .int), 3, 68, 0, 0, 0, 1) := rfl
set_option maxRecDepth 20000 in
theorem k_X0_harshest : gm_MT[23]? = some (0, yX0_harshest, cX0_harshest, 7, (some .int), 1, 22, 0, 0, 0, 1) := rfl
theorem fC0_193 : gm_c 0 193 = some (0, 91, 1187, 1015, 0) := by decide +kernel
set_option maxRecDepth 20000 in
theorem k_X9_total : gm_MT[91]? = some (9, yX9_total, cX9_total, 3, (some .int), 0, 0, 0, 0, 0, 2) := rfl
set_option maxRecDepth 20000 in
theorem k_X0_fallsBySeeds : gm_MT[24]? = some (0, yX0_fallsBySeeds, cX0_fallsBySeeds, 9, (some .int), 2, 50, 0, 0, 0, 2) := rfl
theorem fY5_1 : gm_fy 5 1 = 0 := by decide +kernel
theorem fF0_197 : gm_f 0 197 = some (1, 5, 1, 332) := by decide +kernel
theorem fC0_200 : gm_c 0 200 = some (4, 162, 1205, 948, 0) := by decide +kernel
set_option maxRecDepth 20000 in
theorem k_X11_lotOfTen : gm_MT[162]? = some (11, yX11_lotOfTen, cX11_lotOfTen, 3, (some .int), 1, 22, 0, 0, 0, 2) := rfl
set_option maxRecDepth 20000 in
theorem k_X1_begin : gm_MT[26]? = some (1, yX1_begin, cX1_begin, 2, none, 0, 0, 0, 0, 0, 0) := rfl
theorem fY1_0 : gm_fy 1 0 = 2 := by decide +kernel
theorem fF1_9 : gm_f 1 9 = some (0, 1, 0, 226) := by decide +kernel
theorem fL5 : gm_LAY[5]? = some (0, 1) := by decide +kernel
theorem fR5_0 : gm_RF 5 0 = some 6 := rfl
theorem fL6 : gm_LAY[6]? = some (1, 8) := by decide +kernel
theorem fY1_1 : gm_fy 1 1 = 0 := by decide +kernel
theorem fF1_15 : gm_f 1 15 = some (0, 1, 1, 227) := by decide +kernel
theorem fN1_1 : gm_fin 1 1 = false := by decide +kernel
set_option maxRecDepth 20000 in
theorem k_X1_mayEnd : gm_MT[27]? = some (1, yX1_mayEnd, cX1_mayEnd, 1, (some .boolean), 0, 0, 0, 0, 0, 0) := rfl
set_option maxRecDepth 20000 in
theorem k_X1_faultOf : gm_MT[28]? = some (1, yX1_faultOf, cX1_faultOf, 2, (some .int), 2, 42, 0, 0, 0, 1) := rfl
theorem fC1_34 : gm_c 1 34 = some (1, 29, 689, 691, 5) := by decide +kernel
set_option maxRecDepth 20000 in
theorem k_X1_openTell : gm_MT[29]? = some (1, yX1_openTell, cX1_openTell, 2, (some .int), 0, 0, 0, 0, 0, 1) := rfl
theorem fX_X1_openTell : vwCl.findIdx? (fun c => c.1 == (yX1_openTell).cls) = some 1 := by decide +kernel
theorem fs_X1_openTell : (yX1_openTell).cls ≠ "java/lang/String" := by decide +kernel
theorem fC1_38 : gm_c 1 38 = some (1, 30, 699, 701, 6) := by decide +kernel
set_option maxRecDepth 20000 in
theorem k_X1_takeField : gm_MT[30]? = some (1, yX1_takeField, cX1_takeField, 2, (some .int), 0, 0, 0, 0, 0, 1) := rfl
theorem fX_X1_takeField : vwCl.findIdx? (fun c => c.1 == (yX1_takeField).cls) = some 1 := by decide +kernel
theorem fs_X1_takeField : (yX1_takeField).cls ≠ "java/lang/String" := by decide +kernel
theorem fC1_41 : gm_c 1 41 = some (1, 31, 703, 705, 7) := by decide +kernel
set_option maxRecDepth 20000 in
theorem k_X1_takeEquals : gm_MT[31]? = some (1, yX1_takeEquals, cX1_takeEquals, 2, (some .int), 0, 0, 0, 0, 0, 1) := rfl
theorem fX_X1_takeEquals : vwCl.findIdx? (fun c => c.1 == (yX1_takeEquals).cls) = some 1 := by decide +kernel
theorem fs_X1_takeEquals : (yX1_takeEquals).cls ≠ "java/lang/String" := by decide +kernel
theorem fC1_44 : gm_c 1 44 = some (1, 32, 707, 709, 8) := by decide +kernel
set_option maxRecDepth 20000 in
theorem k_X1_takeOperand : gm_MT[32]? = some (1, yX1_takeOperand, cX1_takeOperand, 2, (some .int), 1, 20, 0, 0, 0, 1) := rfl
theorem fX_X1_takeOperand : vwCl.findIdx? (fun c => c.1 == (yX1_takeOperand).cls) = some 1 := by decide +kernel
theorem fs_X1_takeOperand : (yX1_takeOperand).cls ≠ "java/lang/String" := by decide +kernel
theorem fC1_47 : gm_c 1 47 = some (1, 34, 715, 717, 10) := by decide +kernel
set_option maxRecDepth 20000 in
theorem k_X1_takeOperator : gm_MT[34]? = some (1, yX1_takeOperator, cX1_takeOperator, 2, (some .int), 1, 21, 0, 0, 0, 1) := rfl
theorem fX_X1_takeOperator : vwCl.findIdx? (fun c => c.1 == (yX1_takeOperator).cls) = some 1 := by decide +kernel
theorem fs_X1_takeOperator : (yX1_takeOperator).cls ≠ "java/lang/String" := by decide +kernel
theorem fA6 : ∀ im : gm_I, gm_at im 128 6 = some (1, 8) := fun _ => rfl
theorem fS1_50 : gm_st 1 50 = some (1001, 693) := by decide +kernel
theorem fA1001 : ∀ im : gm_I, gm_at im 128 1001 = some (1, 8) := fun _ => rfl
theorem fS1_53 : gm_st 1 53 = some (1002, 695) := by decide +kernel
theorem fA1002 : ∀ im : gm_I, gm_at im 128 1002 = some (1, 5) := fun _ => rfl
theorem fY1_2 : gm_fy 1 2 = 0 := by decide +kernel
theorem fF1_19 : gm_f 1 19 = some (0, 1, 2, 228) := by decide +kernel
theorem fN1_2 : gm_fin 1 2 = false := by decide +kernel
theorem fS1_56 : gm_st 1 56 = some (1003, 697) := by decide +kernel
theorem fA1003 : ∀ im : gm_I, gm_at im 128 1003 = some (1, 5) := fun _ => rfl
theorem fY1_3 : gm_fy 1 3 = 0 := by decide +kernel
theorem fF1_22 : gm_f 1 22 = some (0, 1, 3, 229) := by decide +kernel
theorem fN1_3 : gm_fin 1 3 = false := by decide +kernel
theorem fY1_4 : gm_fy 1 4 = 0 := by decide +kernel
theorem fF1_25 : gm_f 1 25 = some (0, 1, 4, 230) := by decide +kernel
theorem fN1_4 : gm_fin 1 4 = false := by decide +kernel
theorem fY1_5 : gm_fy 1 5 = 0 := by decide +kernel
theorem fF1_28 : gm_f 1 28 = some (0, 1, 5, 231) := by decide +kernel
theorem fN1_5 : gm_fin 1 5 = false := by decide +kernel
theorem fY1_6 : gm_fy 1 6 = 0 := by decide +kernel
theorem fF1_31 : gm_f 1 31 = some (0, 1, 6, 232) := by decide +kernel
theorem fN1_6 : gm_fin 1 6 = false := by decide +kernel
theorem fC1_59 : gm_c 1 59 = some (1, 33, 711, 713, 9) := by decide +kernel
set_option maxRecDepth 20000 in
theorem k_X1_takeIf : gm_MT[33]? = some (1, yX1_takeIf, cX1_takeIf, 1, (some .int), 0, 0, 0, 0, 0, 0) := rfl
theorem fX_X1_takeIf : vwCl.findIdx? (fun c => c.1 == (yX1_takeIf).cls) = some 1 := by decide +kernel
theorem fs_X1_takeIf : (yX1_takeIf).cls ≠ "java/lang/String" := by decide +kernel
theorem fC1_63 : gm_c 1 63 = some (1, 35, 719, 721, 11) := by decide +kernel
set_option maxRecDepth 20000 in
theorem k_X1_closeSection : gm_MT[35]? = some (1, yX1_closeSection, cX1_closeSection, 2, (some .int), 0, 0, 0, 0, 0, 1) := rfl
theorem fX_X1_closeSection : vwCl.findIdx? (fun c => c.1 == (yX1_closeSection).cls) = some 1 := by decide +kernel
theorem fs_X1_closeSection : (yX1_closeSection).cls ≠ "java/lang/String" := by decide +kernel
set_option maxRecDepth 20000 in
theorem k_X2_begin : gm_MT[37]? = some (2, yX2_begin, cX2_begin, 1, none, 1, 22, 0, 0, 0, 0) := rfl
theorem fY2_5 : gm_fy 2 5 = 0 := by decide +kernel
theorem fF2_27 : gm_f 2 27 = some (0, 2, 5, 303) := by decide +kernel
theorem fL15 : gm_LAY[15]? = some (0, 2) := by decide +kernel
theorem fN2_5 : gm_fin 2 5 = false := by decide +kernel
theorem fY2_2 : gm_fy 2 2 = 2 := by decide +kernel
theorem fF2_18 : gm_f 2 18 = some (0, 2, 2, 300) := by decide +kernel
theorem fR15_2 : gm_RF 15 2 = some 18 := rfl
theorem fL18 : gm_LAY[18]? = some (1, 3) := by decide +kernel
theorem fC2_34 : gm_c 2 34 = some (1, 42, 324, 326, 0) := by decide +kernel
set_option maxRecDepth 20000 in
theorem k_X2_addStep : gm_MT[42]? = some (2, yX2_addStep, cX2_addStep, 3, none, 0, 0, 0, 0, 0, 2) := rfl
theorem fX_X2_addStep : vwCl.findIdx? (fun c => c.1 == (yX2_addStep).cls) = some 2 := by decide +kernel
theorem fs_X2_addStep : (yX2_addStep).cls ≠ "java/lang/String" := by decide +kernel
set_option maxRecDepth 20000 in
theorem k_X2_take : gm_MT[38]? = some (2, yX2_take, cX2_take, 7, none, 3, 64, 0, 0, 0, 3) := rfl
theorem fY2_6 : gm_fy 2 6 = 0 := by decide +kernel
theorem fF2_31 : gm_f 2 31 = some (0, 2, 6, 304) := by decide +kernel
theorem fN2_6 : gm_fin 2 6 = false := by decide +kernel
theorem fY9_3 : gm_fy 9 3 = 0 := by decide +kernel
theorem fF2_38 : gm_f 2 38 = some (1, 9, 3, 261) := by decide +kernel
theorem fL7 : gm_LAY[7]? = some (0, 9) := by decide +kernel
theorem fC2_41 : gm_c 2 41 = some (1, 103, 772, 736, 737) := by decide +kernel
set_option maxRecDepth 20000 in
theorem k_X10_kindAt : gm_MT[103]? = some (10, yX10_kindAt, cX10_kindAt, 2, (some .int), 0, 0, 0, 0, 0, 1) := rfl
theorem fX_X10_kindAt : vwCl.findIdx? (fun c => c.1 == (yX10_kindAt).cls) = some 9 := by decide +kernel
theorem fs_X10_kindAt : (yX10_kindAt).cls ≠ "java/lang/String" := by decide +kernel
theorem fC2_45 : gm_c 2 45 = some (1, 104, 773, 749, 750) := by decide +kernel
set_option maxRecDepth 20000 in
theorem k_X10_valueAt : gm_MT[104]? = some (10, yX10_valueAt, cX10_valueAt, 2, (some .long), 0, 0, 0, 0, 0, 1) := rfl
theorem fX_X10_valueAt : vwCl.findIdx? (fun c => c.1 == (yX10_valueAt).cls) = some 9 := by decide +kernel
theorem fs_X10_valueAt : (yX10_valueAt).cls ≠ "java/lang/String" := by decide +kernel
theorem fC2_49 : gm_c 2 49 = some (1, 40, 774, 776, 14) := by decide +kernel
set_option maxRecDepth 20000 in
theorem k_X2_release : gm_MT[40]? = some (2, yX2_release, cX2_release, 2, none, 1, 22, 0, 0, 0, 1) := rfl
theorem fX_X2_release : vwCl.findIdx? (fun c => c.1 == (yX2_release).cls) = some 2 := by decide +kernel
theorem fs_X2_release : (yX2_release).cls ≠ "java/lang/String" := by decide +kernel
theorem fC2_53 : gm_c 2 53 = some (1, 305, 781, 783, 15) := by decide +kernel
set_option maxRecDepth 20000 in
theorem k_X2_leadOn : gm_MT[305]? = some (2, yX2_leadOn, cX2_leadOn, 2, none, 0, 0, 0, 0, 0, 1) := rfl
theorem fX_X2_leadOn : vwCl.findIdx? (fun c => c.1 == (yX2_leadOn).cls) = some 2 := by decide +kernel
theorem fs_X2_leadOn : (yX2_leadOn).cls ≠ "java/lang/String" := by decide +kernel
theorem fC2_56 : gm_c 2 56 = some (1, 39, 785, 787, 16) := by decide +kernel
set_option maxRecDepth 20000 in
theorem k_X2_takeSign : gm_MT[39]? = some (2, yX2_takeSign, cX2_takeSign, 2, none, 2, 43, 0, 0, 0, 1) := rfl
theorem fX_X2_takeSign : vwCl.findIdx? (fun c => c.1 == (yX2_takeSign).cls) = some 2 := by decide +kernel
theorem fs_X2_takeSign : (yX2_takeSign).cls ≠ "java/lang/String" := by decide +kernel
theorem fC2_59 : gm_c 2 59 = some (11, 279, 789, 638, 639) := by decide +kernel
theorem fC2_65 : gm_c 2 65 = some (0, 41, 778, 779, 0) := by decide +kernel
set_option maxRecDepth 20000 in
theorem k_X2_rank : gm_MT[41]? = some (2, yX2_rank, cX2_rank, 1, (some .int), 0, 0, 0, 0, 0, 1) := rfl
theorem fY2_4 : gm_fy 2 4 = 2 := by decide +kernel
theorem fF2_24 : gm_f 2 24 = some (0, 2, 4, 302) := by decide +kernel
theorem fR15_4 : gm_RF 15 4 = some 20 := rfl
theorem fL20 : gm_LAY[20]? = some (1, 400) := by decide +kernel
theorem fA20 : ∀ im : gm_I, gm_at im 128 20 = some (1, 400) := fun _ => rfl
theorem fY2_0 : gm_fy 2 0 = 2 := by decide +kernel
theorem fF2_11 : gm_f 2 11 = some (0, 2, 0, 298) := by decide +kernel
theorem fR15_0 : gm_RF 15 0 = some 16 := rfl
theorem fL16 : gm_LAY[16]? = some (1, 406) := by decide +kernel
theorem fY2_1 : gm_fy 2 1 = 2 := by decide +kernel
theorem fF2_15 : gm_f 2 15 = some (0, 2, 1, 299) := by decide +kernel
theorem fR15_1 : gm_RF 15 1 = some 17 := rfl
theorem fL17 : gm_LAY[17]? = some (1, 406) := by decide +kernel
set_option maxRecDepth 20000 in
theorem k_X2_value : gm_MT[43]? = some (2, yX2_value, cX2_value, 8, (some .int), 1, 30, 0, 0, 0, 2) := rfl
theorem fA18 : ∀ im : gm_I, gm_at im 128 18 = some (1, 3) := fun _ => rfl
theorem fA16 : ∀ im : gm_I, gm_at im 128 16 = some (1, 406) := fun _ => rfl
theorem fA17 : ∀ im : gm_I, gm_at im 128 17 = some (1, 406) := fun _ => rfl
theorem fA70 : ∀ im : gm_I, gm_at im 128 70 = some (1, 9) := fun _ => rfl
theorem fY2_3 : gm_fy 2 3 = 2 := by decide +kernel
theorem fF2_21 : gm_f 2 21 = some (0, 2, 3, 301) := by decide +kernel
theorem fR15_3 : gm_RF 15 3 = some 19 := rfl
theorem fL19 : gm_LAY[19]? = some (1, 406) := by decide +kernel
theorem fA19 : ∀ im : gm_I, gm_at im 128 19 = some (1, 406) := fun _ => rfl
set_option maxRecDepth 20000 in
theorem k_X3_clear : gm_MT[45]? = some (3, yX3_clear, cX3_clear, 1, none, 0, 0, 0, 0, 0, 0) := rfl
theorem fY3_3 : gm_fy 3 3 = 0 := by decide +kernel
theorem fF3_25 : gm_f 3 25 = some (0, 3, 3, 390) := by decide +kernel
theorem fL23 : gm_LAY[23]? = some (0, 3) := by decide +kernel
theorem fN3_3 : gm_fin 3 3 = false := by decide +kernel
theorem fY3_4 : gm_fy 3 4 = 0 := by decide +kernel
theorem fF3_28 : gm_f 3 28 = some (0, 3, 4, 392) := by decide +kernel
theorem fN3_4 : gm_fin 3 4 = false := by decide +kernel
set_option maxRecDepth 20000 in
theorem k_X3_keep : gm_MT[46]? = some (3, yX3_keep, cX3_keep, 2, none, 2, 51, 0, 0, 0, 1) := rfl
theorem fY8_0 : gm_fy 8 0 = 2 := by decide +kernel
theorem fF3_31 : gm_f 3 31 = some (1, 8, 0, 375) := by decide +kernel
theorem fR21_0 : gm_RF 21 0 = some 22 := rfl
theorem fY3_0 : gm_fy 3 0 = 2 := by decide +kernel
theorem fF3_13 : gm_f 3 13 = some (0, 3, 0, 387) := by decide +kernel
theorem fR23_0 : gm_RF 23 0 = some 24 := rfl
theorem fY3_2 : gm_fy 3 2 = 0 := by decide +kernel
theorem fF3_21 : gm_f 3 21 = some (0, 3, 2, 389) := by decide +kernel
theorem fL24 : gm_LAY[24]? = some (5, 40) := by decide +kernel
theorem fB24 : ∀ j, j < 40 → gm_RF 24 j = some (25 + j) := by decide +kernel
theorem fC3_35 : gm_c 3 35 = some (0, 50, 913, 914, 0) := by decide +kernel
set_option maxRecDepth 20000 in
theorem k_X3_copyRow : gm_MT[50]? = some (3, yX3_copyRow, cX3_copyRow, 2, none, 1, 30, 0, 0, 0, 2) := rfl
theorem fN3_2 : gm_fin 3 2 = false := by decide +kernel
theorem fC3_39 : gm_c 3 39 = some (12, 280, 919, 641, 642) := by decide +kernel
set_option maxRecDepth 20000 in
theorem k_X3_takeBack : gm_MT[47]? = some (3, yX3_takeBack, cX3_takeBack, 2, (some .boolean), 2, 51, 0, 0, 0, 1) := rfl
set_option maxRecDepth 20000 in
theorem k_X3_putInSlot : gm_MT[48]? = some (3, yX3_putInSlot, cX3_putInSlot, 3, none, 2, 51, 0, 0, 0, 2) := rfl
theorem fY3_1 : gm_fy 3 1 = 2 := by decide +kernel
theorem fF3_18 : gm_f 3 18 = some (0, 3, 1, 388) := by decide +kernel
theorem fR23_1 : gm_RF 23 1 = some 65 := rfl
theorem fL65 : gm_LAY[65]? = some (5, 3) := by decide +kernel
theorem fB65 : ∀ j, j < 3 → gm_RF 65 j = some (66 + j) := by decide +kernel
set_option maxRecDepth 20000 in
theorem k_X3_takeFromSlot : gm_MT[49]? = some (3, yX3_takeFromSlot, cX3_takeFromSlot, 3, (some .boolean), 2, 51, 0, 0, 0, 2) := rfl
theorem fC3_45 : gm_c 3 45 = some (7, 0, 916, 917, 0) := by decide +kernel
set_option maxRecDepth 20000 in
theorem k_X4_faultOf : gm_MT[52]? = some (4, yX4_faultOf, cX4_faultOf, 4, (some .int), 9, 207, 0, 0, 0, 2) := rfl
theorem fC4_36 : gm_c 4 36 = some (1, 53, 590, 592, 2) := by decide +kernel
set_option maxRecDepth 20000 in
theorem k_X4_faultOfForm : gm_MT[53]? = some (4, yX4_faultOfForm, cX4_faultOfForm, 6, (some .int), 8, 182, 0, 0, 0, 2) := rfl
theorem fX_X4_faultOfForm : vwCl.findIdx? (fun c => c.1 == (yX4_faultOfForm).cls) = some 4 := by decide +kernel
theorem fs_X4_faultOfForm : (yX4_faultOfForm).cls ≠ "java/lang/String" := by decide +kernel
theorem fL2 : gm_LAY[2]? = some (0, 4) := by decide +kernel
theorem fC4_40 : gm_c 4 40 = some (1, 54, 727, 729, 12) := by decide +kernel
set_option maxRecDepth 20000 in
theorem k_X4_faultOfSense : gm_MT[54]? = some (4, yX4_faultOfSense, cX4_faultOfSense, 7, (some .int), 3, 69, 0, 0, 0, 1) := rfl
theorem fX_X4_faultOfSense : vwCl.findIdx? (fun c => c.1 == (yX4_faultOfSense).cls) = some 4 := by decide +kernel
theorem fs_X4_faultOfSense : (yX4_faultOfSense).cls ≠ "java/lang/String" := by decide +kernel
theorem fY4_3 : gm_fy 4 3 = 0 := by decide +kernel
theorem fF4_32 : gm_f 4 32 = some (0, 4, 3, 275) := by decide +kernel
theorem fN4_3 : gm_fin 4 3 = false := by decide +kernel
theorem fY4_1 : gm_fy 4 1 = 2 := by decide +kernel
theorem fF4_21 : gm_f 4 21 = some (0, 4, 1, 272) := by decide +kernel
theorem fR2_1 : gm_RF 2 1 = some 5 := rfl
theorem fC4_44 : gm_c 4 44 = some (1, 26, 594, 595, 596) := by decide +kernel
theorem fX_X1_begin : vwCl.findIdx? (fun c => c.1 == (yX1_begin).cls) = some 1 := by decide +kernel
theorem fs_X1_begin : (yX1_begin).cls ≠ "java/lang/String" := by decide +kernel
theorem fY4_2 : gm_fy 4 2 = 2 := by decide +kernel
theorem fF4_28 : gm_f 4 28 = some (0, 4, 2, 273) := by decide +kernel
theorem fR2_2 : gm_RF 2 2 = some 7 := rfl
theorem fF4_47 : gm_f 4 47 = some (1, 9, 3, 260) := by decide +kernel
theorem fN9_3 : gm_fin 9 3 = false := by decide +kernel
theorem fY4_0 : gm_fy 4 0 = 2 := by decide +kernel
theorem fF4_12 : gm_f 4 12 = some (0, 4, 0, 271) := by decide +kernel
theorem fR2_0 : gm_RF 2 0 = some 3 := rfl
theorem fC4_50 : gm_c 4 50 = some (1, 63, 598, 599, 600) := by decide +kernel
set_option maxRecDepth 20000 in
theorem k_X6_step : gm_MT[63]? = some (6, yX6_step, cX6_step, 4, none, 7, 159, 0, 0, 0, 3) := rfl
theorem fX_X6_step : vwCl.findIdx? (fun c => c.1 == (yX6_step).cls) = some 6 := by decide +kernel
theorem fs_X6_step : (yX6_step).cls ≠ "java/lang/String" := by decide +kernel
theorem fL3 : gm_LAY[3]? = some (0, 6) := by decide +kernel
theorem fY6_3 : gm_fy 6 3 = 0 := by decide +kernel
theorem fF4_54 : gm_f 4 54 = some (1, 6, 3, 204) := by decide +kernel
theorem fY6_1 : gm_fy 6 1 = 0 := by decide +kernel
theorem fF4_55 : gm_f 4 55 = some (1, 6, 1, 200) := by decide +kernel
theorem fC4_58 : gm_c 4 58 = some (1, 27, 681, 682, 683) := by decide +kernel
theorem fX_X1_mayEnd : vwCl.findIdx? (fun c => c.1 == (yX1_mayEnd).cls) = some 1 := by decide +kernel
theorem fs_X1_mayEnd : (yX1_mayEnd).cls ≠ "java/lang/String" := by decide +kernel
theorem fC4_62 : gm_c 4 62 = some (1, 28, 685, 686, 687) := by decide +kernel
theorem fX_X1_faultOf : vwCl.findIdx? (fun c => c.1 == (yX1_faultOf).cls) = some 1 := by decide +kernel
theorem fs_X1_faultOf : (yX1_faultOf).cls ≠ "java/lang/String" := by decide +kernel
theorem fY6_2 : gm_fy 6 2 = 1 := by decide +kernel
theorem fF4_65 : gm_f 4 65 = some (1, 6, 2, 202) := by decide +kernel
theorem fC4_69 : gm_c 4 69 = some (1, 102, 723, 724, 725) := by decide +kernel
set_option maxRecDepth 20000 in
theorem k_X10_add : gm_MT[102]? = some (10, yX10_add, cX10_add, 5, none, 0, 0, 0, 0, 0, 3) := rfl
theorem fX_X10_add : vwCl.findIdx? (fun c => c.1 == (yX10_add).cls) = some 9 := by decide +kernel
theorem fs_X10_add : (yX10_add).cls ≠ "java/lang/String" := by decide +kernel
theorem fY6_4 : gm_fy 6 4 = 0 := by decide +kernel
theorem fF4_73 : gm_f 4 73 = some (1, 6, 4, 206) := by decide +kernel
theorem fC4_76 : gm_c 4 76 = some (1, 106, 731, 732, 733) := by decide +kernel
set_option maxRecDepth 20000 in
theorem k_X10_tellAt : gm_MT[106]? = some (10, yX10_tellAt, cX10_tellAt, 2, (some .int), 1, 21, 0, 0, 0, 1) := rfl
theorem fX_X10_tellAt : vwCl.findIdx? (fun c => c.1 == (yX10_tellAt).cls) = some 9 := by decide +kernel
theorem fs_X10_tellAt : (yX10_tellAt).cls ≠ "java/lang/String" := by decide +kernel
theorem fC4_79 : gm_c 4 79 = some (1, 55, 739, 741, 13) := by decide +kernel
set_option maxRecDepth 20000 in
theorem k_X4_faultOfTell : gm_MT[55]? = some (4, yX4_faultOfTell, cX4_faultOfTell, 7, (some .int), 2, 43, 0, 0, 0, 2) := rfl
theorem fX_X4_faultOfTell : vwCl.findIdx? (fun c => c.1 == (yX4_faultOfTell).cls) = some 4 := by decide +kernel
theorem fs_X4_faultOfTell : (yX4_faultOfTell).cls ≠ "java/lang/String" := by decide +kernel
theorem fC4_83 : gm_c 4 83 = some (1, 104, 757, 749, 750) := by decide +kernel
theorem fC4_87 : gm_c 4 87 = some (11, 279, 762, 638, 639) := by decide +kernel
theorem fS4_92 : gm_st 4 92 = some (1002, 743) := by decide +kernel
theorem fC4_96 : gm_c 4 96 = some (1, 107, 744, 745, 746) := by decide +kernel
set_option maxRecDepth 20000 in
theorem k_X10_isNameTwice : gm_MT[107]? = some (10, yX10_isNameTwice, cX10_isNameTwice, 3, (some .boolean), 1, 21, 0, 0, 0, 1) := rfl
theorem fX_X10_isNameTwice : vwCl.findIdx? (fun c => c.1 == (yX10_isNameTwice).cls) = some 9 := by decide +kernel
theorem fs_X10_isNameTwice : (yX10_isNameTwice).cls ≠ "java/lang/String" := by decide +kernel
theorem fC4_100 : gm_c 4 100 = some (1, 105, 752, 753, 754) := by decide +kernel
set_option maxRecDepth 20000 in
theorem k_X10_placeAt : gm_MT[105]? = some (10, yX10_placeAt, cX10_placeAt, 2, (some .int), 0, 0, 0, 0, 0, 1) := rfl
theorem fX_X10_placeAt : vwCl.findIdx? (fun c => c.1 == (yX10_placeAt).cls) = some 9 := by decide +kernel
theorem fs_X10_placeAt : (yX10_placeAt).cls ≠ "java/lang/String" := by decide +kernel
theorem fS4_103 : gm_st 4 103 = some (1003, 756) := by decide +kernel
theorem fS4_106 : gm_st 4 106 = some (1004, 758) := by decide +kernel
theorem fA1004 : ∀ im : gm_I, gm_at im 128 1004 = some (1, 20) := fun _ => rfl
theorem fS4_109 : gm_st 4 109 = some (1005, 760) := by decide +kernel
theorem fA1005 : ∀ im : gm_I, gm_at im 128 1005 = some (1, 20) := fun _ => rfl
set_option maxRecDepth 20000 in
theorem k_X5_fill : gm_MT[57]? = some (5, yX5_fill, cX5_fill, 4, none, 4, 90, 0, 0, 0, 1) := rfl
theorem fY5_0 : gm_fy 5 0 = 0 := by decide +kernel
theorem fF5_9 : gm_f 5 9 = some (0, 5, 0, 328) := by decide +kernel
theorem fN5_0 : gm_fin 5 0 = false := by decide +kernel
theorem fF5_15 : gm_f 5 15 = some (0, 5, 1, 331) := by decide +kernel
theorem fN5_1 : gm_fin 5 1 = false := by decide +kernel
theorem fF5_18 : gm_f 5 18 = some (0, 5, 2, 334) := by decide +kernel
theorem fN5_2 : gm_fin 5 2 = false := by decide +kernel
theorem fY5_3 : gm_fy 5 3 = 0 := by decide +kernel
theorem fF5_21 : gm_f 5 21 = some (0, 5, 3, 337) := by decide +kernel
theorem fN5_3 : gm_fin 5 3 = false := by decide +kernel
theorem fF5_24 : gm_f 5 24 = some (0, 5, 4, 339) := by decide +kernel
theorem fN5_4 : gm_fin 5 4 = false := by decide +kernel
theorem fY5_8 : gm_fy 5 8 = 2 := by decide +kernel
theorem fF5_40 : gm_f 5 40 = some (0, 5, 8, 347) := by decide +kernel
theorem fR11_8 : gm_RF 11 8 = some 15 := rfl
theorem fC5_44 : gm_c 5 44 = some (1, 37, 320, 321, 322) := by decide +kernel
theorem fX_X2_begin : vwCl.findIdx? (fun c => c.1 == (yX2_begin).cls) = some 2 := by decide +kernel
theorem fs_X2_begin : (yX2_begin).cls ≠ "java/lang/String" := by decide +kernel
theorem fF5_47 : gm_f 5 47 = some (1, 9, 3, 259) := by decide +kernel
theorem fC5_52 : gm_c 5 52 = some (1, 106, 767, 732, 733) := by decide +kernel
theorem fC5_56 : gm_c 5 56 = some (1, 38, 768, 769, 770) := by decide +kernel
theorem fX_X2_take : vwCl.findIdx? (fun c => c.1 == (yX2_take).cls) = some 2 := by decide +kernel
theorem fs_X2_take : (yX2_take).cls ≠ "java/lang/String" := by decide +kernel
theorem fC5_60 : gm_c 5 60 = some (1, 58, 790, 792, 17) := by decide +kernel
set_option maxRecDepth 20000 in
theorem k_X5_takeTell : gm_MT[58]? = some (5, yX5_takeTell, cX5_takeTell, 5, none, 1, 21, 0, 0, 0, 3) := rfl
theorem fX_X5_takeTell : vwCl.findIdx? (fun c => c.1 == (yX5_takeTell).cls) = some 5 := by decide +kernel
theorem fs_X5_takeTell : (yX5_takeTell).cls ≠ "java/lang/String" := by decide +kernel
theorem fC5_63 : gm_c 5 63 = some (1, 104, 794, 749, 750) := by decide +kernel
theorem fY5_5 : gm_fy 5 5 = 2 := by decide +kernel
theorem fF5_27 : gm_f 5 27 = some (0, 5, 5, 343) := by decide +kernel
theorem fR11_5 : gm_RF 11 5 = some 12 := rfl
theorem fL12 : gm_LAY[12]? = some (1, 28) := by decide +kernel
theorem fY5_6 : gm_fy 5 6 = 2 := by decide +kernel
theorem fF5_31 : gm_f 5 31 = some (0, 5, 6, 344) := by decide +kernel
theorem fR11_6 : gm_RF 11 6 = some 13 := rfl
theorem fL13 : gm_LAY[13]? = some (1, 15) := by decide +kernel
theorem fY5_7 : gm_fy 5 7 = 2 := by decide +kernel
theorem fF5_34 : gm_f 5 34 = some (0, 5, 7, 345) := by decide +kernel
theorem fR11_7 : gm_RF 11 7 = some 14 := rfl
theorem fL14 : gm_LAY[14]? = some (1, 8) := by decide +kernel
set_option maxRecDepth 20000 in
theorem k_X5_toldOf : gm_MT[59]? = some (5, yX5_toldOf, cX5_toldOf, 3, (some .int), 0, 0, 0, 0, 0, 2) := rfl
theorem fA12 : ∀ im : gm_I, gm_at im 128 12 = some (1, 28) := fun _ => rfl
theorem fC5_67 : gm_c 5 67 = some (1, 59, 958, 522, 523) := by decide +kernel
theorem fX_X5_toldOf : vwCl.findIdx? (fun c => c.1 == (yX5_toldOf).cls) = some 5 := by decide +kernel
theorem fs_X5_toldOf : (yX5_toldOf).cls ≠ "java/lang/String" := by decide +kernel
theorem fA13 : ∀ im : gm_I, gm_at im 128 13 = some (1, 15) := fun _ => rfl
set_option maxRecDepth 20000 in
theorem k_X6_takeLetters : gm_MT[64]? = some (6, yX6_takeLetters, cX6_takeLetters, 4, none, 1, 20, 0, 0, 0, 2) := rfl
theorem fF6_31 : gm_f 6 31 = some (0, 6, 3, 203) := by decide +kernel
theorem fF6_34 : gm_f 6 34 = some (0, 6, 4, 205) := by decide +kernel
theorem fN6_4 : gm_fin 6 4 = false := by decide +kernel
theorem fA1 : ∀ im : gm_I, gm_at im 128 1 = some (2, 2000) := fun _ => rfl
theorem fC6_49 : gm_c 6 49 = some (0, 67, 605, 606, 0) := by decide +kernel
set_option maxRecDepth 20000 in
theorem k_X6_isLetter : gm_MT[67]? = some (6, yX6_isLetter, cX6_isLetter, 1, (some .boolean), 0, 0, 0, 0, 0, 1) := rfl
theorem fF6_27 : gm_f 6 27 = some (0, 6, 2, 201) := by decide +kernel
theorem fW6_41 : gm_kl 6 41 = some (32, 196) := by decide +kernel
theorem fW6_43 : gm_kl 6 43 = some (97, 197) := by decide +kernel
theorem fN6_2 : gm_fin 6 2 = false := by decide +kernel
theorem fF6_23 : gm_f 6 23 = some (0, 6, 1, 199) := by decide +kernel
theorem fN6_1 : gm_fin 6 1 = false := by decide +kernel
theorem fY6_0 : gm_fy 6 0 = 2 := by decide +kernel
theorem fF6_17 : gm_f 6 17 = some (0, 6, 0, 198) := by decide +kernel
theorem fR3_0 : gm_RF 3 0 = some 4 := rfl
theorem fA4 : ∀ im : gm_I, gm_at im 128 4 = some (4, 20) := fun _ => rfl
theorem fL4 : gm_LAY[4]? = some (4, 20) := by decide +kernel
set_option maxRecDepth 20000 in
theorem k_X6_takeDigits : gm_MT[65]? = some (6, yX6_takeDigits, cX6_takeDigits, 3, none, 1, 20, 0, 0, 0, 2) := rfl
theorem fC6_56 : gm_c 6 56 = some (0, 68, 612, 613, 0) := by decide +kernel
set_option maxRecDepth 20000 in
theorem k_X6_isDigit : gm_MT[68]? = some (6, yX6_isDigit, cX6_isDigit, 1, (some .boolean), 0, 0, 0, 0, 0, 1) := rfl
theorem fW6_68 : gm_kl 6 68 = some (10, 619) := by decide +kernel
theorem fW6_70 : gm_kl 6 70 = some (48, 620) := by decide +kernel
set_option maxRecDepth 20000 in
theorem k_X6_isBlank : gm_MT[66]? = some (6, yX6_isBlank, cX6_isBlank, 1, (some .boolean), 0, 0, 0, 0, 0, 1) := rfl
theorem fY7_2 : gm_fy 7 2 = 0 := by decide +kernel
theorem fF7_15 : gm_f 7 15 = some (0, 7, 2, 413) := by decide +kernel
theorem fN7_2 : gm_fin 7 2 = false := by decide +kernel
theorem fY7_0 : gm_fy 7 0 = 2 := by decide +kernel
theorem fF7_43 : gm_f 7 43 = some (0, 7, 0, 411) := by decide +kernel
theorem fR69_0 : gm_RF 69 0 = some 11 := rfl
theorem fC7_49 : gm_c 7 49 = some (1, 59, 858, 522, 523) := by decide +kernel
theorem fY7_3 : gm_fy 7 3 = 0 := by decide +kernel
theorem fF7_19 : gm_f 7 19 = some (0, 7, 3, 414) := by decide +kernel
theorem fN7_3 : gm_fin 7 3 = false := by decide +kernel
theorem fF7_53 : gm_f 7 53 = some (1, 5, 0, 329) := by decide +kernel
theorem fC7_56 : gm_c 7 56 = some (1, 83, 859, 821, 822) := by decide +kernel
set_option maxRecDepth 20000 in
theorem k_X8_pleadsFor : gm_MT[83]? = some (8, yX8_pleadsFor, cX8_pleadsFor, 4, (some .int), 1, 22, 0, 0, 0, 2) := rfl
theorem fX_X8_pleadsFor : vwCl.findIdx? (fun c => c.1 == (yX8_pleadsFor).cls) = some 8 := by decide +kernel
theorem fs_X8_pleadsFor : (yX8_pleadsFor).cls ≠ "java/lang/String" := by decide +kernel
theorem fF7_22 : gm_f 7 22 = some (0, 7, 4, 415) := by decide +kernel
theorem fC7_61 : gm_c 7 61 = some (1, 79, 860, 812, 813) := by decide +kernel
theorem fF7_25 : gm_f 7 25 = some (0, 7, 5, 418) := by decide +kernel
theorem fF7_28 : gm_f 7 28 = some (0, 7, 6, 421) := by decide +kernel
theorem fY7_7 : gm_fy 7 7 = 0 := by decide +kernel
theorem fF7_31 : gm_f 7 31 = some (0, 7, 7, 424) := by decide +kernel
theorem fN7_7 : gm_fin 7 7 = false := by decide +kernel
theorem fC7_64 : gm_c 7 64 = some (1, 87, 861, 862, 863) := by decide +kernel
set_option maxRecDepth 20000 in
theorem k_X8_day : gm_MT[87]? = some (8, yX8_day, cX8_day, 1, (some .int), 0, 0, 0, 0, 0, 0) := rfl
theorem fX_X8_day : vwCl.findIdx? (fun c => c.1 == (yX8_day).cls) = some 8 := by decide +kernel
theorem fs_X8_day : (yX8_day).cls ≠ "java/lang/String" := by decide +kernel
theorem fF7_34 : gm_f 7 34 = some (0, 7, 8, 426) := by decide +kernel
theorem fC7_67 : gm_c 7 67 = some (1, 82, 865, 816, 817) := by decide +kernel
theorem fF7_37 : gm_f 7 37 = some (0, 7, 9, 428) := by decide +kernel
theorem fY7_10 : gm_fy 7 10 = 0 := by decide +kernel
theorem fF7_40 : gm_f 7 40 = some (0, 7, 10, 431) := by decide +kernel
theorem fN7_10 : gm_fin 7 10 = false := by decide +kernel
theorem fC7_71 : gm_c 7 71 = some (1, 76, 870, 872, 21) := by decide +kernel
set_option maxRecDepth 20000 in
theorem k_X7_setVars : gm_MT[76]? = some (7, yX7_setVars, cX7_setVars, 5, none, 0, 0, 0, 0, 0, 4) := rfl
theorem fX_X7_setVars : vwCl.findIdx? (fun c => c.1 == (yX7_setVars).cls) = some 7 := by decide +kernel
theorem fs_X7_setVars : (yX7_setVars).cls ≠ "java/lang/String" := by decide +kernel
theorem fF7_75 : gm_f 7 75 = some (1, 5, 8, 348) := by decide +kernel
theorem fY7_1 : gm_fy 7 1 = 2 := by decide +kernel
theorem fF7_9 : gm_f 7 9 = some (0, 7, 1, 412) := by decide +kernel
theorem fR69_1 : gm_RF 69 1 = some 70 := rfl
theorem fC7_79 : gm_c 7 79 = some (1, 43, 874, 875, 876) := by decide +kernel
theorem fX_X2_value : vwCl.findIdx? (fun c => c.1 == (yX2_value).cls) = some 2 := by decide +kernel
theorem fs_X2_value : (yX2_value).cls ≠ "java/lang/String" := by decide +kernel
theorem fC7_85 : gm_c 7 85 = some (12, 280, 878, 641, 642) := by decide +kernel
theorem fC7_90 : gm_c 7 90 = some (11, 279, 879, 638, 639) := by decide +kernel
theorem fF7_93 : gm_f 7 93 = some (1, 5, 7, 346) := by decide +kernel
theorem fA14 : ∀ im : gm_I, gm_at im 128 14 = some (1, 8) := fun _ => rfl
set_option maxRecDepth 20000 in
theorem k_X7_totalAs : gm_MT[73]? = some (7, yX7_totalAs, cX7_totalAs, 4, (some .int), 3, 80, 0, 0, 0, 1) := rfl
theorem fF7_96 : gm_f 7 96 = some (1, 5, 4, 340) := by decide +kernel
theorem fC7_99 : gm_c 7 99 = some (1, 72, 904, 889, 890) := by decide +kernel
theorem fC7_102 : gm_c 7 102 = some (1, 71, 1007, 867, 868) := by decide +kernel
theorem fC7_105 : gm_c 7 105 = some (1, 73, 1008, 901, 902) := by decide +kernel
theorem fX_X7_totalAs : vwCl.findIdx? (fun c => c.1 == (yX7_totalAs).cls) = some 7 := by decide +kernel
theorem fs_X7_totalAs : (yX7_totalAs).cls ≠ "java/lang/String" := by decide +kernel
theorem fC7_109 : gm_c 7 109 = some (0, 90, 1009, 969, 0) := by decide +kernel
set_option maxRecDepth 20000 in
theorem k_X7_fineFor : gm_MT[75]? = some (7, yX7_fineFor, cX7_fineFor, 2, (some .int), 2, 57, 0, 0, 0, 1) := rfl
theorem fL70 : gm_LAY[70]? = some (1, 9) := by decide +kernel
set_option maxRecDepth 20000 in
theorem k_X8_begin : gm_MT[78]? = some (8, yX8_begin, cX8_begin, 3, none, 2, 44, 0, 0, 0, 1) := rfl
theorem fC8_17 : gm_c 8 17 = some (1, 59, 521, 522, 523) := by decide +kernel
theorem fC8_21 : gm_c 8 21 = some (1, 80, 525, 526, 527) := by decide +kernel
set_option maxRecDepth 20000 in
theorem k_X8_set : gm_MT[80]? = some (8, yX8_set, cX8_set, 4, none, 0, 0, 0, 0, 0, 3) := rfl
theorem fX_X8_set : vwCl.findIdx? (fun c => c.1 == (yX8_set).cls) = some 8 := by decide +kernel
theorem fs_X8_set : (yX8_set).cls ≠ "java/lang/String" := by decide +kernel
theorem fC8_25 : gm_c 8 25 = some (1, 81, 529, 530, 531) := by decide +kernel
set_option maxRecDepth 20000 in
theorem k_X8_hush : gm_MT[81]? = some (8, yX8_hush, cX8_hush, 2, none, 1, 23, 0, 0, 0, 1) := rfl
theorem fX_X8_hush : vwCl.findIdx? (fun c => c.1 == (yX8_hush).cls) = some 8 := by decide +kernel
theorem fs_X8_hush : (yX8_hush).cls ≠ "java/lang/String" := by decide +kernel
theorem fF8_11 : gm_f 8 11 = some (0, 8, 0, 374) := by decide +kernel
theorem fL22 : gm_LAY[22]? = some (1, 77) := by decide +kernel
theorem fA22 : ∀ im : gm_I, gm_at im 128 22 = some (1, 77) := fun _ => rfl
theorem fC8_29 : gm_c 8 29 = some (1, 79, 819, 812, 813) := by decide +kernel
theorem fC8_32 : gm_c 8 32 = some (0, 84, 824, 825, 0) := by decide +kernel
set_option maxRecDepth 20000 in
theorem k_X8_behind : gm_MT[84]? = some (8, yX8_behind, cX8_behind, 2, (some .int), 0, 0, 0, 0, 0, 2) := rfl
set_option maxRecDepth 20000 in
theorem k_X8_pay : gm_MT[85]? = some (8, yX8_pay, cX8_pay, 3, none, 1, 23, 0, 0, 0, 2) := rfl
set_option maxRecDepth 20000 in
theorem k_X8_paid : gm_MT[86]? = some (8, yX8_paid, cX8_paid, 1, (some .int), 0, 0, 0, 0, 0, 0) := rfl
set_option maxRecDepth 20000 in
theorem k_X8_fellTo : gm_MT[88]? = some (8, yX8_fellTo, cX8_fellTo, 2, (some .int), 0, 0, 0, 0, 0, 1) := rfl
set_option maxRecDepth 20000 in
theorem k_X8_fall : gm_MT[89]? = some (8, yX8_fall, cX8_fall, 3, none, 0, 0, 0, 0, 0, 2) := rfl
set_option maxRecDepth 20000 in
theorem k_X9_speeches : gm_MT[92]? = some (9, yX9_speeches, cX9_speeches, 3, (some .int), 0, 0, 0, 0, 0, 2) := rfl
theorem fC9_11 : gm_c 9 11 = some (0, 94, 974, 975, 0) := by decide +kernel
set_option maxRecDepth 20000 in
theorem k_X9_greatestBut : gm_MT[94]? = some (9, yX9_greatestBut, cX9_greatestBut, 10, (some .int), 0, 0, 0, 0, 0, 2) := rfl
set_option maxRecDepth 20000 in
theorem k_X9_over : gm_MT[95]? = some (9, yX9_over, cX9_over, 4, (some .int), 1, 22, 0, 0, 0, 3) := rfl
theorem fC9_15 : gm_c 9 15 = some (0, 91, 1149, 1015, 0) := by decide +kernel
theorem fC9_18 : gm_c 9 18 = some (0, 92, 1153, 1154, 0) := by decide +kernel
set_option maxRecDepth 20000 in
theorem k_X9_lead : gm_MT[96]? = some (9, yX9_lead, cX9_lead, 4, (some .int), 3, 69, 0, 0, 0, 1) := rfl
theorem fC9_21 : gm_c 9 21 = some (0, 93, 1145, 972, 0) := by decide +kernel
theorem fC9_25 : gm_c 9 25 = some (0, 97, 1161, 1162, 0) := by decide +kernel
set_option maxRecDepth 20000 in
theorem k_X9_hundredfold : gm_MT[97]? = some (9, yX9_hundredfold, cX9_hundredfold, 5, (some .int), 2, 45, 0, 0, 0, 3) := rfl
theorem fC9_29 : gm_c 9 29 = some (0, 95, 1150, 1151, 0) := by decide +kernel
set_option maxRecDepth 20000 in
theorem k_X9_least : gm_MT[98]? = some (9, yX9_least, cX9_least, 4, (some .int), 2, 45, 0, 0, 0, 1) := rfl
set_option maxRecDepth 20000 in
theorem k_X9_apart : gm_MT[99]? = some (9, yX9_apart, cX9_apart, 4, (some .int), 3, 69, 0, 0, 0, 1) := rfl
theorem fC9_32 : gm_c 9 32 = some (0, 98, 1146, 1147, 0) := by decide +kernel
theorem fC9_35 : gm_c 9 35 = some (11, 279, 1156, 638, 639) := by decide +kernel
theorem fF10_22 : gm_f 10 22 = some (0, 9, 3, 258) := by decide +kernel
theorem fY9_0 : gm_fy 9 0 = 2 := by decide +kernel
theorem fF10_9 : gm_f 10 9 = some (0, 9, 0, 255) := by decide +kernel
theorem fR7_0 : gm_RF 7 0 = some 8 := rfl
theorem fL8 : gm_LAY[8]? = some (1, 400) := by decide +kernel
theorem fY9_1 : gm_fy 9 1 = 2 := by decide +kernel
theorem fF10_15 : gm_f 10 15 = some (0, 9, 1, 256) := by decide +kernel
theorem fR7_1 : gm_RF 7 1 = some 9 := rfl
theorem fL9 : gm_LAY[9]? = some (4, 400) := by decide +kernel
theorem fY9_2 : gm_fy 9 2 = 2 := by decide +kernel
theorem fF10_19 : gm_f 10 19 = some (0, 9, 2, 257) := by decide +kernel
theorem fR7_2 : gm_RF 7 2 = some 10 := rfl
theorem fL10 : gm_LAY[10]? = some (1, 400) := by decide +kernel
theorem fA8 : ∀ im : gm_I, gm_at im 128 8 = some (1, 400) := fun _ => rfl
theorem fA9 : ∀ im : gm_I, gm_at im 128 9 = some (4, 400) := fun _ => rfl
theorem fA10 : ∀ im : gm_I, gm_at im 128 10 = some (1, 400) := fun _ => rfl
theorem fC10_26 : gm_c 10 26 = some (1, 103, 735, 736, 737) := by decide +kernel
theorem fC10_30 : gm_c 10 30 = some (1, 104, 748, 749, 750) := by decide +kernel
set_option maxRecDepth 20000 in
theorem k_X11_feed : gm_MT[109]? = some (11, yX11_feed, cX11_feed, 6, (some .int), 1, 22, 0, 0, 0, 5) := rfl
theorem fY10_1 : gm_fy 10 1 = 0 := by decide +kernel
theorem fF11_13 : gm_f 11 13 = some (0, 10, 1, 534) := by decide +kernel
theorem fL0 : gm_LAY[0]? = some (0, 10) := by decide +kernel
theorem fC11_79 : gm_c 11 79 = some (1, 145, 574, 576, 1) := by decide +kernel
set_option maxRecDepth 20000 in
theorem k_X11_putBytes : gm_MT[145]? = some (11, yX11_putBytes, cX11_putBytes, 3, none, 0, 0, 0, 0, 0, 1) := rfl
theorem fX_X11_putBytes : vwCl.findIdx? (fun c => c.1 == (yX11_putBytes).cls) = some 10 := by decide +kernel
theorem fs_X11_putBytes : (yX11_putBytes).cls ≠ "java/lang/String" := by decide +kernel
set_option maxRecDepth 20000 in
theorem k_X11_back : gm_MT[110]? = some (11, yX11_back, cX11_back, 2, (some .int), 0, 0, 0, 0, 0, 1) := rfl
theorem fN10_1 : gm_fin 10 1 = false := by decide +kernel
set_option maxRecDepth 20000 in
theorem k_X11_read : gm_MT[111]? = some (11, yX11_read, cX11_read, 2, (some .int), 10, 230, 0, 0, 0, 0) := rfl
theorem fY10_3 : gm_fy 10 3 = 2 := by decide +kernel
theorem fF11_23 : gm_f 11 23 = some (0, 10, 3, 536) := by decide +kernel
theorem fR0_3 : gm_RF 0 3 = some 2 := rfl
theorem fY10_0 : gm_fy 10 0 = 2 := by decide +kernel
theorem fF11_9 : gm_f 11 9 = some (0, 10, 0, 533) := by decide +kernel
theorem fR0_0 : gm_RF 0 0 = some 1 := rfl
theorem fC11_83 : gm_c 11 83 = some (1, 52, 586, 587, 588) := by decide +kernel
theorem fX_X4_faultOf : vwCl.findIdx? (fun c => c.1 == (yX4_faultOf).cls) = some 4 := by decide +kernel
theorem fs_X4_faultOf : (yX4_faultOf).cls ≠ "java/lang/String" := by decide +kernel
theorem fF11_87 : gm_f 11 87 = some (1, 4, 3, 276) := by decide +kernel
theorem fY10_2 : gm_fy 10 2 = 0 := by decide +kernel
theorem fF11_17 : gm_f 11 17 = some (0, 10, 2, 535) := by decide +kernel
theorem fN10_2 : gm_fin 10 2 = false := by decide +kernel
theorem fY10_4 : gm_fy 10 4 = 2 := by decide +kernel
theorem fF11_30 : gm_f 11 30 = some (0, 10, 4, 537) := by decide +kernel
theorem fR0_4 : gm_RF 0 4 = some 11 := rfl
theorem fF11_90 : gm_f 11 90 = some (1, 4, 2, 274) := by decide +kernel
theorem fC11_94 : gm_c 11 94 = some (1, 57, 763, 764, 765) := by decide +kernel
theorem fX_X5_fill : vwCl.findIdx? (fun c => c.1 == (yX5_fill).cls) = some 5 := by decide +kernel
theorem fs_X5_fill : (yX5_fill).cls ≠ "java/lang/String" := by decide +kernel
theorem fY10_5 : gm_fy 10 5 = 2 := by decide +kernel
theorem fF11_37 : gm_f 11 37 = some (0, 10, 5, 538) := by decide +kernel
theorem fR0_5 : gm_RF 0 5 = some 21 := rfl
theorem fC11_76 : gm_c 11 76 = some (1, 78, 517, 518, 519) := by decide +kernel
theorem fX_X8_begin : vwCl.findIdx? (fun c => c.1 == (yX8_begin).cls) = some 8 := by decide +kernel
theorem fs_X8_begin : (yX8_begin).cls ≠ "java/lang/String" := by decide +kernel
theorem fY10_6 : gm_fy 10 6 = 2 := by decide +kernel
theorem fF11_44 : gm_f 11 44 = some (0, 10, 6, 539) := by decide +kernel
theorem fR0_6 : gm_RF 0 6 = some 23 := rfl
theorem fC11_98 : gm_c 11 98 = some (1, 45, 795, 796, 797) := by decide +kernel
theorem fX_X3_clear : vwCl.findIdx? (fun c => c.1 == (yX3_clear).cls) = some 3 := by decide +kernel
theorem fs_X3_clear : (yX3_clear).cls ≠ "java/lang/String" := by decide +kernel
theorem fY10_11 : gm_fy 10 11 = 0 := by decide +kernel
theorem fF11_73 : gm_f 11 73 = some (0, 10, 11, 544) := by decide +kernel
theorem fN10_11 : gm_fin 10 11 = false := by decide +kernel
set_option maxRecDepth 20000 in
theorem k_X11_place : gm_MT[112]? = some (11, yX11_place, cX11_place, 1, (some .int), 0, 0, 0, 0, 0, 0) := rfl
set_option maxRecDepth 20000 in
theorem k_X11_man : gm_MT[113]? = some (11, yX11_man, cX11_man, 3, (some .int), 2, 45, 0, 0, 0, 2) := rfl
theorem fC11_101 : gm_c 11 101 = some (1, 146, 807, 809, 18) := by decide +kernel
set_option maxRecDepth 20000 in
theorem k_X11_isMan : gm_MT[146]? = some (11, yX11_isMan, cX11_isMan, 2, (some .boolean), 0, 0, 0, 0, 0, 1) := rfl
theorem fX_X11_isMan : vwCl.findIdx? (fun c => c.1 == (yX11_isMan).cls) = some 10 := by decide +kernel
theorem fs_X11_isMan : (yX11_isMan).cls ≠ "java/lang/String" := by decide +kernel
theorem fC11_105 : gm_c 11 105 = some (1, 79, 811, 812, 813) := by decide +kernel
theorem fC11_109 : gm_c 11 109 = some (1, 82, 815, 816, 817) := by decide +kernel
theorem fF11_112 : gm_f 11 112 = some (1, 5, 0, 330) := by decide +kernel
theorem fC11_115 : gm_c 11 115 = some (1, 83, 820, 821, 822) := by decide +kernel
set_option maxRecDepth 20000 in
theorem k_X11_motion : gm_MT[114]? = some (11, yX11_motion, cX11_motion, 3, (some .int), 2, 45, 0, 0, 0, 2) := rfl
theorem fC11_118 : gm_c 11 118 = some (1, 147, 831, 833, 19) := by decide +kernel
set_option maxRecDepth 20000 in
theorem k_X11_isMotion : gm_MT[147]? = some (11, yX11_isMotion, cX11_isMotion, 2, (some .boolean), 0, 0, 0, 0, 0, 1) := rfl
theorem fX_X11_isMotion : vwCl.findIdx? (fun c => c.1 == (yX11_isMotion).cls) = some 10 := by decide +kernel
theorem fs_X11_isMotion : (yX11_isMotion).cls ≠ "java/lang/String" := by decide +kernel
theorem fC11_121 : gm_c 11 121 = some (1, 88, 835, 836, 837) := by decide +kernel
theorem fX_X8_fellTo : vwCl.findIdx? (fun c => c.1 == (yX8_fellTo).cls) = some 8 := by decide +kernel
theorem fs_X8_fellTo : (yX8_fellTo).cls ≠ "java/lang/String" := by decide +kernel
theorem fC11_125 : gm_c 11 125 = some (1, 151, 839, 841, 20) := by decide +kernel
set_option maxRecDepth 20000 in
theorem k_X11_speakersOn : gm_MT[151]? = some (11, yX11_speakersOn, cX11_speakersOn, 4, (some .int), 1, 22, 0, 0, 0, 1) := rfl
theorem fX_X11_speakersOn : vwCl.findIdx? (fun c => c.1 == (yX11_speakersOn).cls) = some 10 := by decide +kernel
theorem fs_X11_speakersOn : (yX11_speakersOn).cls ≠ "java/lang/String" := by decide +kernel
theorem fC11_128 : gm_c 11 128 = some (1, 61, 843, 844, 845) := by decide +kernel
set_option maxRecDepth 20000 in
theorem k_X11_argues : gm_MT[115]? = some (11, yX11_argues, cX11_argues, 4, (some .int), 3, 77, 0, 0, 0, 3) := rfl
theorem fC11_131 : gm_c 11 131 = some (0, 149, 851, 852, 0) := by decide +kernel
set_option maxRecDepth 20000 in
theorem k_X11_isManner : gm_MT[149]? = some (11, yX11_isManner, cX11_isManner, 1, (some .boolean), 0, 0, 0, 0, 0, 1) := rfl
theorem fY10_7 : gm_fy 10 7 = 2 := by decide +kernel
theorem fF11_53 : gm_f 11 53 = some (0, 10, 7, 540) := by decide +kernel
theorem fR0_7 : gm_RF 0 7 = some 69 := rfl
theorem fC11_134 : gm_c 11 134 = some (1, 70, 854, 855, 856) := by decide +kernel
theorem fF11_138 : gm_f 11 138 = some (1, 7, 5, 420) := by decide +kernel
theorem fF11_141 : gm_f 11 141 = some (1, 7, 6, 423) := by decide +kernel
theorem fF11_144 : gm_f 11 144 = some (1, 7, 10, 432) := by decide +kernel
theorem fC11_147 : gm_c 11 147 = some (1, 71, 866, 867, 868) := by decide +kernel
set_option maxRecDepth 20000 in
theorem k_X11_mark : gm_MT[116]? = some (11, yX11_mark, cX11_mark, 4, (some .int), 3, 80, 0, 0, 0, 3) := rfl
theorem fF11_151 : gm_f 11 151 = some (1, 5, 4, 341) := by decide +kernel
theorem fC11_154 : gm_c 11 154 = some (1, 150, 884, 886, 22) := by decide +kernel
set_option maxRecDepth 20000 in
theorem k_X11_isSilent : gm_MT[150]? = some (11, yX11_isSilent, cX11_isSilent, 2, (some .boolean), 1, 22, 0, 0, 0, 1) := rfl
theorem fX_X11_isSilent : vwCl.findIdx? (fun c => c.1 == (yX11_isSilent).cls) = some 10 := by decide +kernel
theorem fs_X11_isSilent : (yX11_isSilent).cls ≠ "java/lang/String" := by decide +kernel
theorem fC11_157 : gm_c 11 157 = some (1, 72, 888, 889, 890) := by decide +kernel
set_option maxRecDepth 20000 in
theorem k_X11_sum : gm_MT[117]? = some (11, yX11_sum, cX11_sum, 3, (some .int), 5, 125, 0, 0, 0, 2) := rfl
theorem fC11_160 : gm_c 11 160 = some (1, 156, 896, 898, 23) := by decide +kernel
set_option maxRecDepth 20000 in
theorem k_X11_totalOf : gm_MT[156]? = some (11, yX11_totalOf, cX11_totalOf, 3, (some .int), 4, 103, 0, 0, 0, 2) := rfl
theorem fX_X11_totalOf : vwCl.findIdx? (fun c => c.1 == (yX11_totalOf).cls) = some 10 := by decide +kernel
theorem fs_X11_totalOf : (yX11_totalOf).cls ≠ "java/lang/String" := by decide +kernel
set_option maxRecDepth 20000 in
theorem k_X11_speak : gm_MT[118]? = some (11, yX11_speak, cX11_speak, 4, (some .boolean), 3, 72, 0, 0, 0, 3) := rfl
theorem fC11_163 : gm_c 11 163 = some (1, 46, 909, 910, 911) := by decide +kernel
theorem fX_X3_keep : vwCl.findIdx? (fun c => c.1 == (yX3_keep).cls) = some 3 := by decide +kernel
theorem fs_X3_keep : (yX3_keep).cls ≠ "java/lang/String" := by decide +kernel
theorem fC11_167 : gm_c 11 167 = some (1, 81, 920, 530, 531) := by decide +kernel
theorem fC11_170 : gm_c 11 170 = some (1, 80, 921, 526, 527) := by decide +kernel
set_option maxRecDepth 20000 in
theorem k_X11_praise : gm_MT[119]? = some (11, yX11_praise, cX11_praise, 3, (some .int), 3, 72, 0, 0, 0, 1) := rfl
set_option maxRecDepth 20000 in
theorem k_X11_reads : gm_MT[120]? = some (11, yX11_reads, cX11_reads, 5, (some .int), 3, 72, 0, 0, 0, 2) := rfl
set_option maxRecDepth 20000 in
theorem k_X11_swear : gm_MT[121]? = some (11, yX11_swear, cX11_swear, 3, (some .boolean), 3, 72, 0, 0, 0, 2) := rfl
theorem fC11_174 : gm_c 11 174 = some (1, 148, 934, 936, 24) := by decide +kernel
set_option maxRecDepth 20000 in
theorem k_X11_isSide : gm_MT[148]? = some (11, yX11_isSide, cX11_isSide, 2, (some .boolean), 0, 0, 0, 0, 0, 1) := rfl
theorem fX_X11_isSide : vwCl.findIdx? (fun c => c.1 == (yX11_isSide).cls) = some 10 := by decide +kernel
theorem fs_X11_isSide : (yX11_isSide).cls ≠ "java/lang/String" := by decide +kernel
set_option maxRecDepth 20000 in
theorem k_X11_session : gm_MT[122]? = some (11, yX11_session, cX11_session, 5, (some .int), 5, 128, 0, 0, 0, 1) := rfl
theorem fF11_177 : gm_f 11 177 = some (1, 5, 2, 336) := by decide +kernel
theorem fC11_180 : gm_c 11 180 = some (1, 157, 942, 944, 25) := by decide +kernel
set_option maxRecDepth 20000 in
theorem k_X11_hear : gm_MT[157]? = some (11, yX11_hear, cX11_hear, 6, (some .long), 4, 103, 0, 0, 0, 1) := rfl
theorem fX_X11_hear : vwCl.findIdx? (fun c => c.1 == (yX11_hear).cls) = some 10 := by decide +kernel
theorem fs_X11_hear : (yX11_hear).cls ≠ "java/lang/String" := by decide +kernel
theorem fC11_184 : gm_c 11 184 = some (0, 93, 971, 972, 0) := by decide +kernel
theorem fC11_190 : gm_c 11 190 = some (1, 89, 977, 978, 979) := by decide +kernel
theorem fX_X8_fall : vwCl.findIdx? (fun c => c.1 == (yX8_fall).cls) = some 8 := by decide +kernel
theorem fs_X8_fall : (yX8_fall).cls ≠ "java/lang/String" := by decide +kernel
set_option maxRecDepth 20000 in
theorem k_X11_undo : gm_MT[123]? = some (11, yX11_undo, cX11_undo, 1, (some .boolean), 3, 72, 0, 0, 0, 0) := rfl
theorem fC11_194 : gm_c 11 194 = some (1, 47, 985, 986, 987) := by decide +kernel
theorem fX_X3_takeBack : vwCl.findIdx? (fun c => c.1 == (yX3_takeBack).cls) = some 3 := by decide +kernel
theorem fs_X3_takeBack : (yX3_takeBack).cls ≠ "java/lang/String" := by decide +kernel
set_option maxRecDepth 20000 in
theorem k_X11_now : gm_MT[124]? = some (11, yX11_now, cX11_now, 5, (some .int), 6, 146, 0, 0, 0, 2) := rfl
theorem fY10_8 : gm_fy 10 8 = 2 := by decide +kernel
theorem fF11_62 : gm_f 11 62 = some (0, 10, 8, 541) := by decide +kernel
theorem fR0_8 : gm_RF 0 8 = some 71 := rfl
theorem fC11_198 : gm_c 11 198 = some (1, 87, 946, 862, 863) := by decide +kernel
theorem fC11_201 : gm_c 11 201 = some (1, 1, 993, 994, 995) := by decide +kernel
theorem fX_X0_gather : vwCl.findIdx? (fun c => c.1 == (yX0_gather).cls) = some 0 := by decide +kernel
theorem fs_X0_gather : (yX0_gather).cls ≠ "java/lang/String" := by decide +kernel
theorem fC11_204 : gm_c 11 204 = some (1, 3, 1010, 1011, 1012) := by decide +kernel
theorem fC11_208 : gm_c 11 208 = some (0, 91, 1014, 1015, 0) := by decide +kernel
set_option maxRecDepth 20000 in
theorem k_X11_likely : gm_MT[125]? = some (11, yX11_likely, cX11_likely, 4, (some .int), 6, 146, 0, 0, 0, 3) := rfl
theorem fC11_212 : gm_c 11 212 = some (1, 9, 1021, 1022, 1023) := by decide +kernel
theorem fC11_215 : gm_c 11 215 = some (1, 4, 1026, 1027, 1028) := by decide +kernel
theorem fC11_218 : gm_c 11 218 = some (1, 11, 1030, 1031, 1032) := by decide +kernel
theorem fC11_221 : gm_c 11 221 = some (1, 10, 1044, 1045, 1046) := by decide +kernel
theorem fX_X0_allChances : vwCl.findIdx? (fun c => c.1 == (yX0_allChances).cls) = some 0 := by decide +kernel
theorem fs_X0_allChances : (yX0_allChances).cls ≠ "java/lang/String" := by decide +kernel
theorem fC11_224 : gm_c 11 224 = some (0, 161, 1048, 1049, 0) := by decide +kernel
set_option maxRecDepth 20000 in
theorem k_X11_lessened : gm_MT[161]? = some (11, yX11_lessened, cX11_lessened, 7, (some .int), 0, 0, 0, 0, 0, 3) := rfl
set_option maxRecDepth 20000 in
theorem k_X11_change : gm_MT[126]? = some (11, yX11_change, cX11_change, 5, (some .int), 7, 167, 0, 0, 0, 3) := rfl
theorem fC11_228 : gm_c 11 228 = some (1, 12, 1055, 1056, 1057) := by decide +kernel
theorem fX_X0_whoChanges : vwCl.findIdx? (fun c => c.1 == (yX0_whoChanges).cls) = some 0 := by decide +kernel
theorem fs_X0_whoChanges : (yX0_whoChanges).cls ≠ "java/lang/String" := by decide +kernel
theorem fC11_231 : gm_c 11 231 = some (0, 278, 1078, 1069, 0) := by decide +kernel
set_option maxRecDepth 20000 in
theorem k_X11_choose : gm_MT[127]? = some (11, yX11_choose, cX11_choose, 4, (some .int), 7, 170, 0, 0, 0, 3) := rfl
theorem fC11_236 : gm_c 11 236 = some (1, 14, 1083, 1084, 1085) := by decide +kernel
theorem fX_X0_pickManners : vwCl.findIdx? (fun c => c.1 == (yX0_pickManners).cls) = some 0 := by decide +kernel
theorem fs_X0_pickManners : (yX0_pickManners).cls ≠ "java/lang/String" := by decide +kernel
theorem fC11_239 : gm_c 11 239 = some (1, 17, 1098, 1099, 1100) := by decide +kernel
theorem fX_X0_pickedManner : vwCl.findIdx? (fun c => c.1 == (yX0_pickedManner).cls) = some 0 := by decide +kernel
theorem fs_X0_pickedManner : (yX0_pickedManner).cls ≠ "java/lang/String" := by decide +kernel
set_option maxRecDepth 20000 in
theorem k_X11_chosen : gm_MT[128]? = some (11, yX11_chosen, cX11_chosen, 5, (some .int), 7, 170, 0, 0, 0, 3) := rfl
set_option maxRecDepth 20000 in
theorem k_X11_mumble : gm_MT[129]? = some (11, yX11_mumble, cX11_mumble, 3, (some .int), 7, 168, 0, 0, 0, 2) := rfl
theorem fC11_242 : gm_c 11 242 = some (1, 18, 1110, 1111, 1112) := by decide +kernel
theorem fX_X0_rest : vwCl.findIdx? (fun c => c.1 == (yX0_rest).cls) = some 0 := by decide +kernel
theorem fs_X0_rest : (yX0_rest).cls ≠ "java/lang/String" := by decide +kernel
set_option maxRecDepth 20000 in
theorem k_X11_jury : gm_MT[130]? = some (11, yX11_jury, cX11_jury, 5, (some .int), 6, 146, 0, 0, 0, 3) := rfl
theorem fC11_245 : gm_c 11 245 = some (1, 20, 1127, 1128, 1129) := by decide +kernel
theorem fX_X0_gatherJurors : vwCl.findIdx? (fun c => c.1 == (yX0_gatherJurors).cls) = some 0 := by decide +kernel
theorem fs_X0_gatherJurors : (yX0_gatherJurors).cls ≠ "java/lang/String" := by decide +kernel
theorem fC11_248 : gm_c 11 248 = some (1, 22, 1134, 1135, 1136) := by decide +kernel
theorem fX_X0_fairest : vwCl.findIdx? (fun c => c.1 == (yX0_fairest).cls) = some 0 := by decide +kernel
theorem fs_X0_fairest : (yX0_fairest).cls ≠ "java/lang/String" := by decide +kernel
theorem fC11_251 : gm_c 11 251 = some (1, 21, 1157, 1139, 1140) := by decide +kernel
theorem fC11_254 : gm_c 11 254 = some (0, 99, 1158, 1159, 0) := by decide +kernel
set_option maxRecDepth 20000 in
theorem k_X11_say : gm_MT[131]? = some (11, yX11_say, cX11_say, 4, (some .int), 4, 103, 0, 0, 0, 2) := rfl
theorem fC11_257 : gm_c 11 257 = some (1, 73, 900, 901, 902) := by decide +kernel
set_option maxRecDepth 20000 in
theorem k_X11_fine : gm_MT[132]? = some (11, yX11_fine, cX11_fine, 4, (some .int), 5, 125, 0, 0, 0, 2) := rfl
theorem fC11_260 : gm_c 11 260 = some (1, 75, 959, 960, 961) := by decide +kernel
theorem fX_X7_fineFor : vwCl.findIdx? (fun c => c.1 == (yX7_fineFor).cls) = some 7 := by decide +kernel
theorem fs_X7_fineFor : (yX7_fineFor).cls ≠ "java/lang/String" := by decide +kernel
theorem fC11_263 : gm_c 11 263 = some (12, 280, 963, 641, 642) := by decide +kernel
set_option maxRecDepth 20000 in
theorem k_X11_ahead : gm_MT[133]? = some (11, yX11_ahead, cX11_ahead, 2, (some .int), 6, 146, 0, 0, 0, 1) := rfl
theorem fC11_268 : gm_c 11 268 = some (0, 96, 1176, 1177, 0) := by decide +kernel
set_option maxRecDepth 20000 in
theorem k_X11_harsh : gm_MT[134]? = some (11, yX11_harsh, cX11_harsh, 3, (some .int), 6, 146, 0, 0, 0, 2) := rfl
theorem fC11_271 : gm_c 11 271 = some (1, 23, 1183, 1184, 1185) := by decide +kernel
theorem fX_X0_harshest : vwCl.findIdx? (fun c => c.1 == (yX0_harshest).cls) = some 0 := by decide +kernel
theorem fs_X0_harshest : (yX0_harshest).cls ≠ "java/lang/String" := by decide +kernel
set_option maxRecDepth 20000 in
theorem k_X11_praiseFor : gm_MT[135]? = some (11, yX11_praiseFor, cX11_praiseFor, 8, (some .int), 6, 146, 0, 0, 0, 3) := rfl
theorem fC11_275 : gm_c 11 275 = some (1, 74, 1192, 1004, 1005) := by decide +kernel
theorem fF11_278 : gm_f 11 278 = some (1, 7, 7, 425) := by decide +kernel
set_option maxRecDepth 20000 in
theorem k_X11_old : gm_MT[136]? = some (11, yX11_old, cX11_old, 5, (some .int), 5, 125, 0, 0, 0, 2) := rfl
set_option maxRecDepth 20000 in
theorem k_X11_year : gm_MT[137]? = some (11, yX11_year, cX11_year, 6, (some .int), 6, 146, 0, 0, 0, 2) := rfl
theorem fF11_281 : gm_f 11 281 = some (1, 5, 3, 338) := by decide +kernel
theorem fC11_284 : gm_c 11 284 = some (1, 24, 1201, 1202, 1203) := by decide +kernel
theorem fX_X0_fallsBySeeds : vwCl.findIdx? (fun c => c.1 == (yX0_fallsBySeeds).cls) = some 0 := by decide +kernel
theorem fs_X0_fallsBySeeds : (yX0_fallsBySeeds).cls ≠ "java/lang/String" := by decide +kernel
set_option maxRecDepth 20000 in
theorem k_X11_tell : gm_MT[138]? = some (11, yX11_tell, cX11_tell, 3, (some .int), 1, 21, 0, 0, 0, 2) := rfl
theorem fY10_9 : gm_fy 10 9 = 2 := by decide +kernel
theorem fF11_66 : gm_f 11 66 = some (0, 10, 9, 542) := by decide +kernel
theorem fR0_9 : gm_RF 0 9 = some 82 := rfl
theorem fL82 : gm_LAY[82]? = some (1, 20) := by decide +kernel
theorem fY10_10 : gm_fy 10 10 = 2 := by decide +kernel
theorem fF11_70 : gm_f 11 70 = some (0, 10, 10, 543) := by decide +kernel
theorem fR0_10 : gm_RF 0 10 = some 83 := rfl
theorem fL83 : gm_LAY[83]? = some (1, 20) := by decide +kernel
set_option maxRecDepth 20000 in
theorem k_X11_forget : gm_MT[139]? = some (11, yX11_forget, cX11_forget, 2, (some .int), 0, 0, 0, 0, 0, 0) := rfl
set_option maxRecDepth 20000 in
theorem k_X11_slipped : gm_MT[140]? = some (11, yX11_slipped, cX11_slipped, 8, (some .int), 5, 125, 0, 0, 0, 2) := rfl
theorem fC11_287 : gm_c 11 287 = some (1, 158, 1218, 1220, 35) := by decide +kernel
set_option maxRecDepth 20000 in
theorem k_X11_isKnown : gm_MT[158]? = some (11, yX11_isKnown, cX11_isKnown, 4, (some .boolean), 0, 0, 0, 0, 0, 2) := rfl
theorem fX_X11_isKnown : vwCl.findIdx? (fun c => c.1 == (yX11_isKnown).cls) = some 10 := by decide +kernel
theorem fs_X11_isKnown : (yX11_isKnown).cls ≠ "java/lang/String" := by decide +kernel
theorem fC11_291 : gm_c 11 291 = some (1, 159, 1222, 1224, 36) := by decide +kernel
set_option maxRecDepth 20000 in
theorem k_X11_isAsTold : gm_MT[159]? = some (11, yX11_isAsTold, cX11_isAsTold, 5, (some .boolean), 0, 0, 0, 0, 0, 3) := rfl
theorem fX_X11_isAsTold : vwCl.findIdx? (fun c => c.1 == (yX11_isAsTold).cls) = some 10 := by decide +kernel
theorem fs_X11_isAsTold : (yX11_isAsTold).cls ≠ "java/lang/String" := by decide +kernel
theorem fC11_295 : gm_c 11 295 = some (0, 160, 1226, 1227, 0) := by decide +kernel
set_option maxRecDepth 20000 in
theorem k_X11_setBetween : gm_MT[160]? = some (11, yX11_setBetween, cX11_setBetween, 5, (some .int), 0, 0, 0, 0, 0, 3) := rfl
set_option maxRecDepth 20000 in
theorem k_X11_thinks : gm_MT[141]? = some (11, yX11_thinks, cX11_thinks, 6, (some .int), 4, 103, 0, 0, 0, 2) := rfl
theorem fF11_299 : gm_f 11 299 = some (1, 7, 9, 430) := by decide +kernel
theorem fC11_302 : gm_c 11 302 = some (0, 84, 1233, 825, 0) := by decide +kernel
theorem fF11_305 : gm_f 11 305 = some (1, 7, 4, 417) := by decide +kernel
set_option maxRecDepth 20000 in
theorem k_X11_hold : gm_MT[142]? = some (11, yX11_hold, cX11_hold, 2, (some .boolean), 3, 73, 0, 0, 0, 1) := rfl
theorem fC11_308 : gm_c 11 308 = some (1, 48, 1238, 1239, 1240) := by decide +kernel
theorem fX_X3_putInSlot : vwCl.findIdx? (fun c => c.1 == (yX3_putInSlot).cls) = some 3 := by decide +kernel
theorem fs_X3_putInSlot : (yX3_putInSlot).cls ≠ "java/lang/String" := by decide +kernel
set_option maxRecDepth 20000 in
theorem k_X11_restore : gm_MT[143]? = some (11, yX11_restore, cX11_restore, 2, (some .boolean), 3, 73, 0, 0, 0, 1) := rfl
theorem fC11_312 : gm_c 11 312 = some (1, 49, 1246, 1247, 1248) := by decide +kernel
theorem fX_X3_takeFromSlot : vwCl.findIdx? (fun c => c.1 == (yX3_takeFromSlot).cls) = some 3 := by decide +kernel
theorem fs_X3_takeFromSlot : (yX3_takeFromSlot).cls ≠ "java/lang/String" := by decide +kernel
set_option maxRecDepth 20000 in
theorem k_X11_count : gm_MT[144]? = some (11, yX11_count, cX11_count, 2, (some .int), 3, 65, 0, 0, 0, 1) := rfl
theorem fC11_316 : gm_c 11 316 = some (1, 152, 1254, 1256, 37) := by decide +kernel
set_option maxRecDepth 20000 in
theorem k_X11_fallenMotions : gm_MT[152]? = some (11, yX11_fallenMotions, cX11_fallenMotions, 3, (some .int), 1, 21, 0, 0, 0, 0) := rfl
theorem fX_X11_fallenMotions : vwCl.findIdx? (fun c => c.1 == (yX11_fallenMotions).cls) = some 10 := by decide +kernel
theorem fs_X11_fallenMotions : (yX11_fallenMotions).cls ≠ "java/lang/String" := by decide +kernel
theorem fC11_319 : gm_c 11 319 = some (1, 153, 1258, 1260, 38) := by decide +kernel
set_option maxRecDepth 20000 in
theorem k_X11_swornMen : gm_MT[153]? = some (11, yX11_swornMen, cX11_swornMen, 3, (some .int), 2, 43, 0, 0, 0, 0) := rfl
theorem fX_X11_swornMen : vwCl.findIdx? (fun c => c.1 == (yX11_swornMen).cls) = some 10 := by decide +kernel
theorem fs_X11_swornMen : (yX11_swornMen).cls ≠ "java/lang/String" := by decide +kernel
theorem fC11_322 : gm_c 11 322 = some (1, 86, 1262, 1263, 1264) := by decide +kernel
theorem fX_X8_paid : vwCl.findIdx? (fun c => c.1 == (yX8_paid).cls) = some 8 := by decide +kernel
theorem fs_X8_paid : (yX8_paid).cls ≠ "java/lang/String" := by decide +kernel
theorem fF11_325 : gm_f 11 325 = some (1, 3, 3, 391) := by decide +kernel
theorem fF11_328 : gm_f 11 328 = some (1, 3, 4, 393) := by decide +kernel
theorem fC11_331 : gm_c 11 331 = some (1, 155, 1266, 1268, 39) := by decide +kernel
set_option maxRecDepth 20000 in
theorem k_X11_overAll : gm_MT[155]? = some (11, yX11_overAll, cX11_overAll, 4, (some .int), 1, 22, 0, 0, 0, 1) := rfl
theorem fX_X11_overAll : vwCl.findIdx? (fun c => c.1 == (yX11_overAll).cls) = some 10 := by decide +kernel
theorem fs_X11_overAll : (yX11_overAll).cls ≠ "java/lang/String" := by decide +kernel
theorem fC11_334 : gm_c 11 334 = some (1, 154, 1270, 1272, 40) := by decide +kernel
set_option maxRecDepth 20000 in
theorem k_X11_menWithSpeech : gm_MT[154]? = some (11, yX11_menWithSpeech, cX11_menWithSpeech, 3, (some .int), 1, 22, 0, 0, 0, 0) := rfl
theorem fX_X11_menWithSpeech : vwCl.findIdx? (fun c => c.1 == (yX11_menWithSpeech).cls) = some 10 := by decide +kernel
theorem fs_X11_menWithSpeech : (yX11_menWithSpeech).cls ≠ "java/lang/String" := by decide +kernel
theorem fL1 : gm_LAY[1]? = some (2, 2000) := by decide +kernel
theorem fF11_337 : gm_f 11 337 = some (1, 5, 1, 333) := by decide +kernel
theorem fC11_340 : gm_c 11 340 = some (0, 162, 947, 948, 0) := by decide +kernel
theorem fC11_343 : gm_c 11 343 = some (1, 60, 954, 955, 956) := by decide +kernel
theorem fC11_346 : gm_c 11 346 = some (1, 85, 964, 965, 966) := by decide +kernel
theorem fX_X8_pay : vwCl.findIdx? (fun c => c.1 == (yX8_pay).cls) = some 8 := by decide +kernel
theorem fs_X8_pay : (yX8_pay).cls ≠ "java/lang/String" := by decide +kernel
theorem fC11_349 : gm_c 11 349 = some (0, 90, 968, 969, 0) := by decide +kernel
theorem fA82 : ∀ im : gm_I, gm_at im 128 82 = some (1, 20) := fun _ => rfl
theorem fA83 : ∀ im : gm_I, gm_at im 128 83 = some (1, 20) := fun _ => rfl
theorem fC11_353 : gm_c 11 353 = some (0, 163, 950, 951, 0) := by decide +kernel
set_option maxRecDepth 20000 in
theorem k_X11_stirred : gm_MT[163]? = some (11, yX11_stirred, cX11_stirred, 3, (some .int), 0, 0, 0, 0, 0, 2) := rfl
theorem fV11_356 : gm_k 11 356 = some (1103515245, 953) := by decide +kernel
set_option maxRecDepth 20000 in
theorem k_X12_feed : gm_MT[165]? = some (12, yX12_feed, cX12_feed, 6, (some .int), 1, 22, 0, 0, 0, 5) := rfl
theorem fY11_2 : gm_fy 11 2 = 0 := by decide +kernel
theorem fF12_163 : gm_f 12 163 = some (0, 11, 2, 1300) := by decide +kernel
theorem fL84 : gm_LAY[84]? = some (0, 11) := by decide +kernel
theorem fC12_166 : gm_c 12 166 = some (1, 166, 1505, 1507, 44) := by decide +kernel
set_option maxRecDepth 20000 in
theorem k_X12_put : gm_MT[166]? = some (12, yX12_put, cX12_put, 3, none, 0, 0, 0, 0, 0, 1) := rfl
theorem fX_X12_put : vwCl.findIdx? (fun c => c.1 == (yX12_put).cls) = some 11 := by decide +kernel
theorem fs_X12_put : (yX12_put).cls ≠ "java/lang/String" := by decide +kernel
theorem fY11_1 : gm_fy 11 1 = 2 := by decide +kernel
theorem fF12_13 : gm_f 12 13 = some (0, 11, 1, 1299) := by decide +kernel
theorem fR84_1 : gm_RF 84 1 = some 85 := rfl
theorem fL85 : gm_LAY[85]? = some (2, 2000) := by decide +kernel
theorem fN11_2 : gm_fin 11 2 = false := by decide +kernel
set_option maxRecDepth 20000 in
theorem k_X12_back : gm_MT[167]? = some (12, yX12_back, cX12_back, 2, (some .int), 0, 0, 0, 0, 0, 1) := rfl
set_option maxRecDepth 20000 in
theorem k_X12_byteAt : gm_MT[168]? = some (12, yX12_byteAt, cX12_byteAt, 2, (some .int), 0, 0, 0, 0, 0, 1) := rfl
theorem fY11_4 : gm_fy 11 4 = 0 := by decide +kernel
theorem fF12_169 : gm_f 12 169 = some (0, 11, 4, 1302) := by decide +kernel
theorem fY11_3 : gm_fy 11 3 = 2 := by decide +kernel
theorem fF12_17 : gm_f 12 17 = some (0, 11, 3, 1301) := by decide +kernel
theorem fR84_3 : gm_RF 84 3 = some 86 := rfl
theorem fA86 : ∀ im : gm_I, gm_at im 128 86 = some (2, 2000) := fun _ => rfl
set_option maxRecDepth 20000 in
theorem k_X12_isDigit : gm_MT[169]? = some (12, yX12_isDigit, cX12_isDigit, 1, (some .boolean), 0, 0, 0, 0, 0, 1) := rfl
set_option maxRecDepth 20000 in
theorem k_X12_isLetter : gm_MT[170]? = some (12, yX12_isLetter, cX12_isLetter, 1, (some .boolean), 0, 0, 0, 0, 0, 1) := rfl
set_option maxRecDepth 20000 in
theorem k_X12_appends : gm_MT[171]? = some (12, yX12_appends, cX12_appends, 3, (some .long), 0, 0, 0, 0, 0, 2) := rfl
theorem fW12_172 : gm_kl 12 172 = some (27, 1290) := by decide +kernel
set_option maxRecDepth 20000 in
theorem k_X12_word : gm_MT[172]? = some (12, yX12_word, cX12_word, 7, (some .long), 1, 22, 0, 0, 0, 7) := rfl
theorem fC12_174 : gm_c 12 174 = some (0, 171, 1287, 1288, 0) := by decide +kernel
set_option maxRecDepth 20000 in
theorem k_X12_token : gm_MT[173]? = some (12, yX12_token, cX12_token, 6, none, 0, 0, 0, 0, 0, 4) := rfl
theorem fY11_5 : gm_fy 11 5 = 2 := by decide +kernel
theorem fF12_20 : gm_f 12 20 = some (0, 11, 5, 1303) := by decide +kernel
theorem fR84_5 : gm_RF 84 5 = some 87 := rfl
theorem fY11_10 : gm_fy 11 10 = 0 := by decide +kernel
theorem fF12_178 : gm_f 12 178 = some (0, 11, 10, 1308) := by decide +kernel
theorem fL87 : gm_LAY[87]? = some (1, 403) := by decide +kernel
theorem fY11_6 : gm_fy 11 6 = 2 := by decide +kernel
theorem fF12_24 : gm_f 12 24 = some (0, 11, 6, 1304) := by decide +kernel
theorem fR84_6 : gm_RF 84 6 = some 88 := rfl
theorem fL88 : gm_LAY[88]? = some (1, 403) := by decide +kernel
theorem fY11_7 : gm_fy 11 7 = 2 := by decide +kernel
theorem fF12_27 : gm_f 12 27 = some (0, 11, 7, 1305) := by decide +kernel
theorem fR84_7 : gm_RF 84 7 = some 89 := rfl
theorem fL89 : gm_LAY[89]? = some (1, 403) := by decide +kernel
theorem fY11_8 : gm_fy 11 8 = 2 := by decide +kernel
theorem fF12_30 : gm_f 12 30 = some (0, 11, 8, 1306) := by decide +kernel
theorem fR84_8 : gm_RF 84 8 = some 90 := rfl
theorem fL90 : gm_LAY[90]? = some (4, 403) := by decide +kernel
theorem fN11_10 : gm_fin 11 10 = false := by decide +kernel
set_option maxRecDepth 20000 in
theorem k_X12_cut : gm_MT[174]? = some (12, yX12_cut, cX12_cut, 8, none, 2, 49, 0, 0, 0, 0) := rfl
theorem fC12_181 : gm_c 12 181 = some (1, 168, 1521, 1523, 46) := by decide +kernel
theorem fX_X12_byteAt : vwCl.findIdx? (fun c => c.1 == (yX12_byteAt).cls) = some 11 := by decide +kernel
theorem fs_X12_byteAt : (yX12_byteAt).cls ≠ "java/lang/String" := by decide +kernel
theorem fC12_185 : gm_c 12 185 = some (1, 173, 1525, 1527, 47) := by decide +kernel
theorem fX_X12_token : vwCl.findIdx? (fun c => c.1 == (yX12_token).cls) = some 11 := by decide +kernel
theorem fs_X12_token : (yX12_token).cls ≠ "java/lang/String" := by decide +kernel
theorem fC12_189 : gm_c 12 189 = some (0, 170, 1529, 1530, 0) := by decide +kernel
theorem fY11_9 : gm_fy 11 9 = 2 := by decide +kernel
theorem fF12_34 : gm_f 12 34 = some (0, 11, 9, 1307) := by decide +kernel
theorem fR84_9 : gm_RF 84 9 = some 91 := rfl
theorem fA91 : ∀ im : gm_I, gm_at im 128 91 = some (4, 20) := fun _ => rfl
theorem fL91 : gm_LAY[91]? = some (4, 20) := by decide +kernel
theorem fC12_193 : gm_c 12 193 = some (0, 169, 1532, 1533, 0) := by decide +kernel
theorem fC12_196 : gm_c 12 196 = some (1, 175, 1535, 1537, 48) := by decide +kernel
set_option maxRecDepth 20000 in
theorem k_X12_sign : gm_MT[175]? = some (12, yX12_sign, cX12_sign, 5, (some .int), 1, 25, 0, 0, 0, 3) := rfl
theorem fX_X12_sign : vwCl.findIdx? (fun c => c.1 == (yX12_sign).cls) = some 11 := by decide +kernel
theorem fs_X12_sign : (yX12_sign).cls ≠ "java/lang/String" := by decide +kernel
set_option maxRecDepth 20000 in
theorem k_X12_is : gm_MT[176]? = some (12, yX12_is, cX12_is, 2, (some .boolean), 0, 0, 0, 0, 0, 1) := rfl
theorem fY11_13 : gm_fy 11 13 = 0 := by decide +kernel
theorem fF12_200 : gm_f 12 200 = some (0, 11, 13, 1311) := by decide +kernel
theorem fY11_11 : gm_fy 11 11 = 0 := by decide +kernel
theorem fF12_203 : gm_f 12 203 = some (0, 11, 11, 1309) := by decide +kernel
theorem fA87 : ∀ im : gm_I, gm_at im 128 87 = some (1, 403) := fun _ => rfl
set_option maxRecDepth 20000 in
theorem k_X12_fail : gm_MT[177]? = some (12, yX12_fail, cX12_fail, 2, none, 0, 0, 0, 0, 0, 1) := rfl
theorem fN11_13 : gm_fin 11 13 = false := by decide +kernel
theorem fA88 : ∀ im : gm_I, gm_at im 128 88 = some (1, 403) := fun _ => rfl
theorem fY11_14 : gm_fy 11 14 = 0 := by decide +kernel
theorem fF12_206 : gm_f 12 206 = some (0, 11, 14, 1312) := by decide +kernel
theorem fN11_14 : gm_fin 11 14 = false := by decide +kernel
set_option maxRecDepth 20000 in
theorem k_X12_wrong : gm_MT[178]? = some (12, yX12_wrong, cX12_wrong, 4, none, 0, 0, 0, 0, 0, 2) := rfl
theorem fY11_15 : gm_fy 11 15 = 0 := by decide +kernel
theorem fF12_209 : gm_f 12 209 = some (0, 11, 15, 1313) := by decide +kernel
theorem fY11_16 : gm_fy 11 16 = 0 := by decide +kernel
theorem fF12_212 : gm_f 12 212 = some (0, 11, 16, 1314) := by decide +kernel
theorem fN11_15 : gm_fin 11 15 = false := by decide +kernel
theorem fN11_16 : gm_fin 11 16 = false := by decide +kernel
set_option maxRecDepth 20000 in
theorem k_X12_goesOn : gm_MT[179]? = some (12, yX12_goesOn, cX12_goesOn, 1, none, 1, 21, 0, 0, 0, 0) := rfl
theorem fC12_215 : gm_c 12 215 = some (1, 177, 1551, 1553, 52) := by decide +kernel
theorem fX_X12_fail : vwCl.findIdx? (fun c => c.1 == (yX12_fail).cls) = some 11 := by decide +kernel
theorem fs_X12_fail : (yX12_fail).cls ≠ "java/lang/String" := by decide +kernel
theorem fN11_11 : gm_fin 11 11 = false := by decide +kernel
set_option maxRecDepth 20000 in
theorem k_X12_must : gm_MT[180]? = some (12, yX12_must, cX12_must, 2, none, 2, 41, 0, 0, 0, 1) := rfl
theorem fC12_218 : gm_c 12 218 = some (1, 176, 1539, 1541, 49) := by decide +kernel
theorem fX_X12_is : vwCl.findIdx? (fun c => c.1 == (yX12_is).cls) = some 11 := by decide +kernel
theorem fs_X12_is : (yX12_is).cls ≠ "java/lang/String" := by decide +kernel
theorem fC12_221 : gm_c 12 221 = some (1, 179, 1547, 1549, 51) := by decide +kernel
theorem fX_X12_goesOn : vwCl.findIdx? (fun c => c.1 == (yX12_goesOn).cls) = some 11 := by decide +kernel
theorem fs_X12_goesOn : (yX12_goesOn).cls ≠ "java/lang/String" := by decide +kernel
set_option maxRecDepth 20000 in
theorem k_X12_plain : gm_MT[181]? = some (12, yX12_plain, cX12_plain, 3, none, 0, 0, 0, 0, 0, 1) := rfl
theorem fY11_22 : gm_fy 11 22 = 2 := by decide +kernel
theorem fF12_43 : gm_f 12 43 = some (0, 11, 22, 1320) := by decide +kernel
theorem fR84_22 : gm_RF 84 22 = some 93 := rfl
theorem fL93 : gm_LAY[93]? = some (1, 2) := by decide +kernel
theorem fY11_23 : gm_fy 11 23 = 2 := by decide +kernel
theorem fF12_46 : gm_f 12 46 = some (0, 11, 23, 1321) := by decide +kernel
theorem fR84_23 : gm_RF 84 23 = some 94 := rfl
theorem fL94 : gm_LAY[94]? = some (1, 2) := by decide +kernel
theorem fY11_28 : gm_fy 11 28 = 2 := by decide +kernel
theorem fF12_61 : gm_f 12 61 = some (0, 11, 28, 1326) := by decide +kernel
theorem fR84_28 : gm_RF 84 28 = some 99 := rfl
theorem fL99 : gm_LAY[99]? = some (1, 2) := by decide +kernel
theorem fY11_30 : gm_fy 11 30 = 2 := by decide +kernel
theorem fF12_67 : gm_f 12 67 = some (0, 11, 30, 1328) := by decide +kernel
theorem fR84_30 : gm_RF 84 30 = some 101 := rfl
theorem fL101 : gm_LAY[101]? = some (1, 2) := by decide +kernel
theorem fY11_32 : gm_fy 11 32 = 2 := by decide +kernel
theorem fF12_73 : gm_f 12 73 = some (0, 11, 32, 1330) := by decide +kernel
theorem fR84_32 : gm_RF 84 32 = some 103 := rfl
theorem fL103 : gm_LAY[103]? = some (1, 2) := by decide +kernel
theorem fY11_33 : gm_fy 11 33 = 2 := by decide +kernel
theorem fF12_76 : gm_f 12 76 = some (0, 11, 33, 1331) := by decide +kernel
theorem fR84_33 : gm_RF 84 33 = some 104 := rfl
theorem fL104 : gm_LAY[104]? = some (1, 6) := by decide +kernel
theorem fY11_34 : gm_fy 11 34 = 2 := by decide +kernel
theorem fF12_79 : gm_f 12 79 = some (0, 11, 34, 1332) := by decide +kernel
theorem fR84_34 : gm_RF 84 34 = some 105 := rfl
theorem fL105 : gm_LAY[105]? = some (1, 6) := by decide +kernel
set_option maxRecDepth 20000 in
theorem k_X12_read : gm_MT[182]? = some (12, yX12_read, cX12_read, 2, (some .int), 7, 147, 0, 0, 0, 0) := rfl
theorem fN11_4 : gm_fin 11 4 = false := by decide +kernel
theorem fA85 : ∀ im : gm_I, gm_at im 128 85 = some (2, 2000) := fun _ => rfl
theorem fL86 : gm_LAY[86]? = some (2, 2000) := by decide +kernel
theorem fC12_224 : gm_c 12 224 = some (1, 174, 1517, 1519, 45) := by decide +kernel
theorem fX_X12_cut : vwCl.findIdx? (fun c => c.1 == (yX12_cut).cls) = some 11 := by decide +kernel
theorem fs_X12_cut : (yX12_cut).cls ≠ "java/lang/String" := by decide +kernel
theorem fY11_12 : gm_fy 11 12 = 0 := by decide +kernel
theorem fF12_227 : gm_f 12 227 = some (0, 11, 12, 1310) := by decide +kernel
theorem fN11_12 : gm_fin 11 12 = false := by decide +kernel
theorem fY11_18 : gm_fy 11 18 = 0 := by decide +kernel
theorem fF12_230 : gm_f 12 230 = some (0, 11, 18, 1316) := by decide +kernel
theorem fY11_19 : gm_fy 11 19 = 0 := by decide +kernel
theorem fF12_233 : gm_f 12 233 = some (0, 11, 19, 1317) := by decide +kernel
theorem fN11_19 : gm_fin 11 19 = false := by decide +kernel
theorem fY11_20 : gm_fy 11 20 = 0 := by decide +kernel
theorem fF12_236 : gm_f 12 236 = some (0, 11, 20, 1318) := by decide +kernel
theorem fN11_20 : gm_fin 11 20 = false := by decide +kernel
theorem fC12_149 : gm_c 12 149 = some (1, 181, 1280, 1282, 41) := by decide +kernel
theorem fX_X12_plain : vwCl.findIdx? (fun c => c.1 == (yX12_plain).cls) = some 11 := by decide +kernel
theorem fs_X12_plain : (yX12_plain).cls ≠ "java/lang/String" := by decide +kernel
theorem fY11_35 : gm_fy 11 35 = 0 := by decide +kernel
theorem fF12_239 : gm_f 12 239 = some (0, 11, 35, 1333) := by decide +kernel
theorem fN11_35 : gm_fin 11 35 = false := by decide +kernel
theorem fY11_41 : gm_fy 11 41 = 0 := by decide +kernel
theorem fF12_242 : gm_f 12 242 = some (0, 11, 41, 1339) := by decide +kernel
theorem fN11_41 : gm_fin 11 41 = false := by decide +kernel
theorem fC12_245 : gm_c 12 245 = some (1, 186, 1543, 1545, 50) := by decide +kernel
set_option maxRecDepth 20000 in
theorem k_X12_tellOne : gm_MT[186]? = some (12, yX12_tellOne, cX12_tellOne, 2, none, 6, 126, 0, 0, 0, 0) := rfl
theorem fX_X12_tellOne : vwCl.findIdx? (fun c => c.1 == (yX12_tellOne).cls) = some 11 := by decide +kernel
theorem fs_X12_tellOne : (yX12_tellOne).cls ≠ "java/lang/String" := by decide +kernel
theorem fC12_248 : gm_c 12 248 = some (1, 184, 1615, 1617, 68) := by decide +kernel
set_option maxRecDepth 20000 in
theorem k_X12_areSides : gm_MT[184]? = some (12, yX12_areSides, cX12_areSides, 2, (some .boolean), 0, 0, 0, 0, 0, 0) := rfl
theorem fX_X12_areSides : vwCl.findIdx? (fun c => c.1 == (yX12_areSides).cls) = some 11 := by decide +kernel
theorem fs_X12_areSides : (yX12_areSides).cls ≠ "java/lang/String" := by decide +kernel
theorem fC12_252 : gm_c 12 252 = some (1, 178, 1559, 1561, 54) := by decide +kernel
theorem fX_X12_wrong : vwCl.findIdx? (fun c => c.1 == (yX12_wrong).cls) = some 11 := by decide +kernel
theorem fs_X12_wrong : (yX12_wrong).cls ≠ "java/lang/String" := by decide +kernel
theorem fY11_17 : gm_fy 11 17 = 0 := by decide +kernel
theorem fF12_37 : gm_f 12 37 = some (0, 11, 17, 1315) := by decide +kernel
theorem fN11_17 : gm_fin 11 17 = false := by decide +kernel
theorem fN11_18 : gm_fin 11 18 = false := by decide +kernel
theorem fC12_157 : gm_c 12 157 = some (1, 205, 1291, 1293, 42) := by decide +kernel
set_option maxRecDepth 20000 in
theorem k_X12_begins : gm_MT[205]? = some (12, yX12_begins, cX12_begins, 2, none, 0, 0, 0, 0, 0, 0) := rfl
theorem fX_X12_begins : vwCl.findIdx? (fun c => c.1 == (yX12_begins).cls) = some 11 := by decide +kernel
theorem fs_X12_begins : (yX12_begins).cls ≠ "java/lang/String" := by decide +kernel
theorem fC12_160 : gm_c 12 160 = some (1, 206, 1295, 1297, 43) := by decide +kernel
set_option maxRecDepth 20000 in
theorem k_X12_keepsRow : gm_MT[206]? = some (12, yX12_keepsRow, cX12_keepsRow, 2, none, 0, 0, 0, 0, 0, 0) := rfl
theorem fX_X12_keepsRow : vwCl.findIdx? (fun c => c.1 == (yX12_keepsRow).cls) = some 11 := by decide +kernel
theorem fs_X12_keepsRow : (yX12_keepsRow).cls ≠ "java/lang/String" := by decide +kernel
theorem fY11_54 : gm_fy 11 54 = 0 := by decide +kernel
theorem fF12_256 : gm_f 12 256 = some (0, 11, 54, 1352) := by decide +kernel
theorem fN11_54 : gm_fin 11 54 = false := by decide +kernel
theorem fY11_61 : gm_fy 11 61 = 0 := by decide +kernel
theorem fF12_259 : gm_f 12 259 = some (0, 11, 61, 1359) := by decide +kernel
theorem fN11_61 : gm_fin 11 61 = false := by decide +kernel
theorem fY11_65 : gm_fy 11 65 = 2 := by decide +kernel
theorem fF12_143 : gm_f 12 143 = some (0, 11, 65, 1363) := by decide +kernel
theorem fR84_65 : gm_RF 84 65 = some 126 := rfl
theorem fL126 : gm_LAY[126]? = some (3, 3) := by decide +kernel
set_option maxRecDepth 20000 in
theorem k_X12_place : gm_MT[183]? = some (12, yX12_place, cX12_place, 1, (some .int), 0, 0, 0, 0, 0, 0) := rfl
theorem fA94 : ∀ im : gm_I, gm_at im 128 94 = some (1, 2) := fun _ => rfl
theorem fY11_24 : gm_fy 11 24 = 2 := by decide +kernel
theorem fF12_49 : gm_f 12 49 = some (0, 11, 24, 1322) := by decide +kernel
theorem fR84_24 : gm_RF 84 24 = some 95 := rfl
theorem fA95 : ∀ im : gm_I, gm_at im 128 95 = some (1, 14) := fun _ => rfl
theorem fA93 : ∀ im : gm_I, gm_at im 128 93 = some (1, 2) := fun _ => rfl
theorem fA101 : ∀ im : gm_I, gm_at im 128 101 = some (1, 2) := fun _ => rfl
theorem fY11_31 : gm_fy 11 31 = 2 := by decide +kernel
theorem fF12_70 : gm_f 12 70 = some (0, 11, 31, 1329) := by decide +kernel
theorem fR84_31 : gm_RF 84 31 = some 102 := rfl
theorem fA102 : ∀ im : gm_I, gm_at im 128 102 = some (1, 16) := fun _ => rfl
set_option maxRecDepth 20000 in
theorem k_X12_roomFor : gm_MT[185]? = some (12, yX12_roomFor, cX12_roomFor, 3, none, 2, 41, 0, 0, 0, 2) := rfl
theorem fC12_262 : gm_c 12 262 = some (1, 189, 1555, 1557, 53) := by decide +kernel
set_option maxRecDepth 20000 in
theorem k_X12_bounded : gm_MT[189]? = some (12, yX12_bounded, cX12_bounded, 4, (some .int), 2, 41, 0, 0, 0, 2) := rfl
theorem fX_X12_bounded : vwCl.findIdx? (fun c => c.1 == (yX12_bounded).cls) = some 11 := by decide +kernel
theorem fs_X12_bounded : (yX12_bounded).cls ≠ "java/lang/String" := by decide +kernel
theorem fC12_266 : gm_c 12 266 = some (1, 180, 1563, 1565, 55) := by decide +kernel
theorem fX_X12_must : vwCl.findIdx? (fun c => c.1 == (yX12_must).cls) = some 11 := by decide +kernel
theorem fs_X12_must : (yX12_must).cls ≠ "java/lang/String" := by decide +kernel
theorem fC12_269 : gm_c 12 269 = some (1, 185, 1567, 1569, 56) := by decide +kernel
theorem fX_X12_roomFor : vwCl.findIdx? (fun c => c.1 == (yX12_roomFor).cls) = some 11 := by decide +kernel
theorem fs_X12_roomFor : (yX12_roomFor).cls ≠ "java/lang/String" := by decide +kernel
theorem fC12_272 : gm_c 12 272 = some (1, 190, 1571, 1573, 57) := by decide +kernel
set_option maxRecDepth 20000 in
theorem k_X12_tellMan : gm_MT[190]? = some (12, yX12_tellMan, cX12_tellMan, 3, none, 4, 84, 0, 0, 0, 0) := rfl
theorem fX_X12_tellMan : vwCl.findIdx? (fun c => c.1 == (yX12_tellMan).cls) = some 11 := by decide +kernel
theorem fs_X12_tellMan : (yX12_tellMan).cls ≠ "java/lang/String" := by decide +kernel
theorem fA99 : ∀ im : gm_I, gm_at im 128 99 = some (1, 2) := fun _ => rfl
theorem fC12_275 : gm_c 12 275 = some (1, 191, 1583, 1585, 60) := by decide +kernel
set_option maxRecDepth 20000 in
theorem k_X12_tellMotion : gm_MT[191]? = some (12, yX12_tellMotion, cX12_tellMotion, 4, none, 4, 84, 0, 0, 0, 0) := rfl
theorem fX_X12_tellMotion : vwCl.findIdx? (fun c => c.1 == (yX12_tellMotion).cls) = some 11 := by decide +kernel
theorem fs_X12_tellMotion : (yX12_tellMotion).cls ≠ "java/lang/String" := by decide +kernel
theorem fC12_278 : gm_c 12 278 = some (1, 192, 1587, 1589, 61) := by decide +kernel
set_option maxRecDepth 20000 in
theorem k_X12_tellJuror : gm_MT[192]? = some (12, yX12_tellJuror, cX12_tellJuror, 2, none, 4, 84, 0, 0, 0, 0) := rfl
theorem fX_X12_tellJuror : vwCl.findIdx? (fun c => c.1 == (yX12_tellJuror).cls) = some 11 := by decide +kernel
theorem fs_X12_tellJuror : (yX12_tellJuror).cls ≠ "java/lang/String" := by decide +kernel
theorem fC12_281 : gm_c 12 281 = some (1, 193, 1591, 1593, 62) := by decide +kernel
set_option maxRecDepth 20000 in
theorem k_X12_tellLaw : gm_MT[193]? = some (12, yX12_tellLaw, cX12_tellLaw, 4, none, 5, 103, 0, 0, 0, 1) := rfl
theorem fX_X12_tellLaw : vwCl.findIdx? (fun c => c.1 == (yX12_tellLaw).cls) = some 11 := by decide +kernel
theorem fs_X12_tellLaw : (yX12_tellLaw).cls ≠ "java/lang/String" := by decide +kernel
set_option maxRecDepth 20000 in
theorem k_X12_named : gm_MT[187]? = some (12, yX12_named, cX12_named, 3, (some .int), 3, 62, 0, 0, 0, 0) := rfl
theorem fY11_21 : gm_fy 11 21 = 2 := by decide +kernel
theorem fF12_40 : gm_f 12 40 = some (0, 11, 21, 1319) := by decide +kernel
theorem fR84_21 : gm_RF 84 21 = some 92 := rfl
theorem fA92 : ∀ im : gm_I, gm_at im 128 92 = some (4, 20) := fun _ => rfl
theorem fL92 : gm_LAY[92]? = some (4, 20) := by decide +kernel
theorem fA90 : ∀ im : gm_I, gm_at im 128 90 = some (4, 403) := fun _ => rfl
set_option maxRecDepth 20000 in
theorem k_X12_ends : gm_MT[188]? = some (12, yX12_ends, cX12_ends, 2, none, 3, 62, 0, 0, 0, 1) := rfl
theorem fA89 : ∀ im : gm_I, gm_at im 128 89 = some (1, 403) := fun _ => rfl
theorem fC12_284 : gm_c 12 284 = some (1, 187, 1575, 1577, 58) := by decide +kernel
theorem fX_X12_named : vwCl.findIdx? (fun c => c.1 == (yX12_named).cls) = some 11 := by decide +kernel
theorem fs_X12_named : (yX12_named).cls ≠ "java/lang/String" := by decide +kernel
theorem fL95 : gm_LAY[95]? = some (1, 14) := by decide +kernel
theorem fY11_25 : gm_fy 11 25 = 2 := by decide +kernel
theorem fF12_52 : gm_f 12 52 = some (0, 11, 25, 1323) := by decide +kernel
theorem fR84_25 : gm_RF 84 25 = some 96 := rfl
theorem fL96 : gm_LAY[96]? = some (1, 14) := by decide +kernel
theorem fY11_26 : gm_fy 11 26 = 2 := by decide +kernel
theorem fF12_55 : gm_f 12 55 = some (0, 11, 26, 1324) := by decide +kernel
theorem fR84_26 : gm_RF 84 26 = some 97 := rfl
theorem fL97 : gm_LAY[97]? = some (1, 14) := by decide +kernel
theorem fY11_27 : gm_fy 11 27 = 2 := by decide +kernel
theorem fF12_58 : gm_f 12 58 = some (0, 11, 27, 1325) := by decide +kernel
theorem fR84_27 : gm_RF 84 27 = some 98 := rfl
theorem fL98 : gm_LAY[98]? = some (1, 14) := by decide +kernel
theorem fC12_288 : gm_c 12 288 = some (1, 188, 1579, 1581, 59) := by decide +kernel
theorem fX_X12_ends : vwCl.findIdx? (fun c => c.1 == (yX12_ends).cls) = some 11 := by decide +kernel
theorem fs_X12_ends : (yX12_ends).cls ≠ "java/lang/String" := by decide +kernel
theorem fY11_29 : gm_fy 11 29 = 2 := by decide +kernel
theorem fF12_64 : gm_f 12 64 = some (0, 11, 29, 1327) := by decide +kernel
theorem fR84_29 : gm_RF 84 29 = some 100 := rfl
theorem fL100 : gm_LAY[100]? = some (1, 30) := by decide +kernel
theorem fL102 : gm_LAY[102]? = some (1, 16) := by decide +kernel
theorem fY11_36 : gm_fy 11 36 = 2 := by decide +kernel
theorem fF12_82 : gm_f 12 82 = some (0, 11, 36, 1334) := by decide +kernel
theorem fR84_36 : gm_RF 84 36 = some 106 := rfl
theorem fL106 : gm_LAY[106]? = some (3, 260) := by decide +kernel
theorem fY11_37 : gm_fy 11 37 = 2 := by decide +kernel
theorem fF12_86 : gm_f 12 86 = some (0, 11, 37, 1335) := by decide +kernel
theorem fR84_37 : gm_RF 84 37 = some 107 := rfl
theorem fL107 : gm_LAY[107]? = some (1, 260) := by decide +kernel
theorem fC12_291 : gm_c 12 291 = some (1, 197, 1595, 1597, 63) := by decide +kernel
set_option maxRecDepth 20000 in
theorem k_X12_expression : gm_MT[197]? = some (12, yX12_expression, cX12_expression, 3, none, 3, 61, 0, 0, 0, 0) := rfl
theorem fX_X12_expression : vwCl.findIdx? (fun c => c.1 == (yX12_expression).cls) = some 11 := by decide +kernel
theorem fs_X12_expression : (yX12_expression).cls ≠ "java/lang/String" := by decide +kernel
theorem fY11_38 : gm_fy 11 38 = 2 := by decide +kernel
theorem fF12_89 : gm_f 12 89 = some (0, 11, 38, 1336) := by decide +kernel
theorem fR84_38 : gm_RF 84 38 = some 108 := rfl
theorem fL108 : gm_LAY[108]? = some (1, 260) := by decide +kernel
theorem fC12_294 : gm_c 12 294 = some (1, 194, 1611, 1613, 67) := by decide +kernel
set_option maxRecDepth 20000 in
theorem k_X12_term : gm_MT[194]? = some (12, yX12_term, cX12_term, 1, none, 4, 83, 0, 0, 0, 0) := rfl
theorem fX_X12_term : vwCl.findIdx? (fun c => c.1 == (yX12_term).cls) = some 11 := by decide +kernel
theorem fs_X12_term : (yX12_term).cls ≠ "java/lang/String" := by decide +kernel
theorem fY11_39 : gm_fy 11 39 = 2 := by decide +kernel
theorem fF12_92 : gm_f 12 92 = some (0, 11, 39, 1337) := by decide +kernel
theorem fR84_39 : gm_RF 84 39 = some 109 := rfl
theorem fL109 : gm_LAY[109]? = some (1, 260) := by decide +kernel
theorem fY11_40 : gm_fy 11 40 = 2 := by decide +kernel
theorem fF12_95 : gm_f 12 95 = some (0, 11, 40, 1338) := by decide +kernel
theorem fR84_40 : gm_RF 84 40 = some 110 := rfl
theorem fL110 : gm_LAY[110]? = some (1, 260) := by decide +kernel
set_option maxRecDepth 20000 in
theorem k_X12_emit : gm_MT[195]? = some (12, yX12_emit, cX12_emit, 3, none, 0, 0, 0, 0, 0, 2) := rfl
theorem fY11_42 : gm_fy 11 42 = 2 := by decide +kernel
theorem fF12_98 : gm_f 12 98 = some (0, 11, 42, 1340) := by decide +kernel
theorem fR84_42 : gm_RF 84 42 = some 111 := rfl
theorem fL111 : gm_LAY[111]? = some (1, 840) := by decide +kernel
theorem fY11_43 : gm_fy 11 43 = 2 := by decide +kernel
theorem fF12_101 : gm_f 12 101 = some (0, 11, 43, 1341) := by decide +kernel
theorem fR84_43 : gm_RF 84 43 = some 112 := rfl
theorem fL112 : gm_LAY[112]? = some (1, 840) := by decide +kernel
set_option maxRecDepth 20000 in
theorem k_X12_comesOut : gm_MT[196]? = some (12, yX12_comesOut, cX12_comesOut, 3, none, 1, 22, 0, 0, 0, 1) := rfl
theorem fY11_45 : gm_fy 11 45 = 0 := by decide +kernel
theorem fF12_297 : gm_f 12 297 = some (0, 11, 45, 1343) := by decide +kernel
theorem fY11_44 : gm_fy 11 44 = 2 := by decide +kernel
theorem fF12_104 : gm_f 12 104 = some (0, 11, 44, 1342) := by decide +kernel
theorem fR84_44 : gm_RF 84 44 = some 113 := rfl
theorem fA113 : ∀ im : gm_I, gm_at im 128 113 = some (1, 64) := fun _ => rfl
theorem fN11_45 : gm_fin 11 45 = false := by decide +kernel
theorem fC12_300 : gm_c 12 300 = some (1, 195, 1603, 1605, 65) := by decide +kernel
theorem fX_X12_emit : vwCl.findIdx? (fun c => c.1 == (yX12_emit).cls) = some 11 := by decide +kernel
theorem fs_X12_emit : (yX12_emit).cls ≠ "java/lang/String" := by decide +kernel
theorem fL113 : gm_LAY[113]? = some (1, 64) := by decide +kernel
theorem fC12_303 : gm_c 12 303 = some (1, 198, 1599, 1601, 64) := by decide +kernel
set_option maxRecDepth 20000 in
theorem k_X12_unit : gm_MT[198]? = some (12, yX12_unit, cX12_unit, 1, none, 2, 41, 0, 0, 0, 0) := rfl
theorem fX_X12_unit : vwCl.findIdx? (fun c => c.1 == (yX12_unit).cls) = some 11 := by decide +kernel
theorem fs_X12_unit : (yX12_unit).cls ≠ "java/lang/String" := by decide +kernel
theorem fC12_306 : gm_c 12 306 = some (1, 196, 1607, 1609, 66) := by decide +kernel
theorem fX_X12_comesOut : vwCl.findIdx? (fun c => c.1 == (yX12_comesOut).cls) = some 11 := by decide +kernel
theorem fs_X12_comesOut : (yX12_comesOut).cls ≠ "java/lang/String" := by decide +kernel
set_option maxRecDepth 20000 in
theorem k_X12_termOf : gm_MT[199]? = some (12, yX12_termOf, cX12_termOf, 8, (some .int), 0, 0, 0, 0, 0, 2) := rfl
theorem fA111 : ∀ im : gm_I, gm_at im 128 111 = some (1, 840) := fun _ => rfl
theorem fY11_47 : gm_fy 11 47 = 2 := by decide +kernel
theorem fF12_110 : gm_f 12 110 = some (0, 11, 47, 1345) := by decide +kernel
theorem fR84_47 : gm_RF 84 47 = some 115 := rfl
theorem fA112 : ∀ im : gm_I, gm_at im 128 112 = some (1, 840) := fun _ => rfl
theorem fY11_46 : gm_fy 11 46 = 2 := by decide +kernel
theorem fF12_107 : gm_f 12 107 = some (0, 11, 46, 1344) := by decide +kernel
theorem fR84_46 : gm_RF 84 46 = some 114 := rfl
theorem fA114 : ∀ im : gm_I, gm_at im 128 114 = some (1, 9) := fun _ => rfl
theorem fL115 : gm_LAY[115]? = some (1, 400) := by decide +kernel
theorem fA115 : ∀ im : gm_I, gm_at im 128 115 = some (1, 400) := fun _ => rfl
theorem fY11_48 : gm_fy 11 48 = 3 := by decide +kernel
theorem fF12_310 : gm_f 12 310 = some (0, 11, 48, 1346) := by decide +kernel
theorem fN11_48 : gm_fin 11 48 = false := by decide +kernel
set_option maxRecDepth 20000 in
theorem k_X12_in : gm_MT[200]? = some (12, yX12_in, cX12_in, 3, (some .boolean), 0, 0, 0, 0, 0, 3) := rfl
set_option maxRecDepth 20000 in
theorem k_X12_bits : gm_MT[201]? = some (12, yX12_bits, cX12_bits, 3, (some .int), 0, 0, 0, 0, 0, 1) := rfl
set_option maxRecDepth 20000 in
theorem k_X12_isMan : gm_MT[202]? = some (12, yX12_isMan, cX12_isMan, 2, (some .boolean), 1, 22, 0, 0, 0, 1) := rfl
theorem fC12_314 : gm_c 12 314 = some (0, 200, 1631, 1632, 0) := by decide +kernel
set_option maxRecDepth 20000 in
theorem k_X12_isMotion : gm_MT[203]? = some (12, yX12_isMotion, cX12_isMotion, 2, (some .boolean), 1, 22, 0, 0, 0, 1) := rfl
set_option maxRecDepth 20000 in
theorem k_X12_isSide : gm_MT[204]? = some (12, yX12_isSide, cX12_isSide, 2, (some .boolean), 1, 22, 0, 0, 0, 1) := rfl
theorem fY11_50 : gm_fy 11 50 = 2 := by decide +kernel
theorem fF12_116 : gm_f 12 116 = some (0, 11, 50, 1348) := by decide +kernel
theorem fR84_50 : gm_RF 84 50 = some 117 := rfl
theorem fL117 : gm_LAY[117]? = some (1, 80) := by decide +kernel
theorem fA98 : ∀ im : gm_I, gm_at im 128 98 = some (1, 14) := fun _ => rfl
theorem fA103 : ∀ im : gm_I, gm_at im 128 103 = some (1, 2) := fun _ => rfl
theorem fY11_51 : gm_fy 11 51 = 0 := by decide +kernel
theorem fF12_318 : gm_f 12 318 = some (0, 11, 51, 1349) := by decide +kernel
theorem fN11_51 : gm_fin 11 51 = false := by decide +kernel
theorem fY11_49 : gm_fy 11 49 = 2 := by decide +kernel
theorem fF12_113 : gm_f 12 113 = some (0, 11, 49, 1347) := by decide +kernel
theorem fR84_49 : gm_RF 84 49 = some 116 := rfl
theorem fA117 : ∀ im : gm_I, gm_at im 128 117 = some (1, 80) := fun _ => rfl
theorem fL116 : gm_LAY[116]? = some (1, 80) := by decide +kernel
set_option maxRecDepth 20000 in
theorem k_X12_copies : gm_MT[207]? = some (12, yX12_copies, cX12_copies, 2, none, 0, 0, 0, 0, 0, 0) := rfl
theorem fA116 : ∀ im : gm_I, gm_at im 128 116 = some (1, 80) := fun _ => rfl
set_option maxRecDepth 20000 in
theorem k_X12_mixed : gm_MT[208]? = some (12, yX12_mixed, cX12_mixed, 3, (some .int), 0, 0, 0, 0, 0, 2) := rfl
theorem fV12_321 : gm_k 12 321 = some (1103515245, 1749) := by decide +kernel
set_option maxRecDepth 20000 in
theorem k_X12_slips : gm_MT[209]? = some (12, yX12_slips, cX12_slips, 2, (some .boolean), 1, 22, 0, 0, 0, 1) := rfl
theorem fC12_322 : gm_c 12 322 = some (0, 208, 1746, 1747, 0) := by decide +kernel
theorem fA97 : ∀ im : gm_I, gm_at im 128 97 = some (1, 14) := fun _ => rfl
set_option maxRecDepth 20000 in
theorem k_X12_pleadsFor : gm_MT[210]? = some (12, yX12_pleadsFor, cX12_pleadsFor, 2, (some .int), 0, 0, 0, 0, 0, 1) := rfl
set_option maxRecDepth 20000 in
theorem k_X12_looks : gm_MT[211]? = some (12, yX12_looks, cX12_looks, 4, none, 0, 0, 0, 0, 0, 3) := rfl
theorem fA96 : ∀ im : gm_I, gm_at im 128 96 = some (1, 14) := fun _ => rfl
theorem fL114 : gm_LAY[114]? = some (1, 9) := by decide +kernel
set_option maxRecDepth 20000 in
theorem k_X12_asks : gm_MT[212]? = some (12, yX12_asks, cX12_asks, 7, (some .int), 2, 51, 0, 0, 0, 4) := rfl
theorem fA104 : ∀ im : gm_I, gm_at im 128 104 = some (1, 6) := fun _ => rfl
theorem fA105 : ∀ im : gm_I, gm_at im 128 105 = some (1, 6) := fun _ => rfl
theorem fC12_325 : gm_c 12 325 = some (1, 213, 1670, 1672, 77) := by decide +kernel
set_option maxRecDepth 20000 in
theorem k_X12_lawTells : gm_MT[213]? = some (12, yX12_lawTells, cX12_lawTells, 5, (some .int), 1, 27, 0, 0, 0, 1) := rfl
theorem fX_X12_lawTells : vwCl.findIdx? (fun c => c.1 == (yX12_lawTells).cls) = some 11 := by decide +kernel
theorem fs_X12_lawTells : (yX12_lawTells).cls ≠ "java/lang/String" := by decide +kernel
theorem fA106 : ∀ im : gm_I, gm_at im 128 106 = some (3, 260) := fun _ => rfl
theorem fA107 : ∀ im : gm_I, gm_at im 128 107 = some (1, 260) := fun _ => rfl
theorem fA108 : ∀ im : gm_I, gm_at im 128 108 = some (1, 260) := fun _ => rfl
theorem fC12_328 : gm_c 12 328 = some (1, 199, 1674, 1676, 78) := by decide +kernel
theorem fX_X12_termOf : vwCl.findIdx? (fun c => c.1 == (yX12_termOf).cls) = some 11 := by decide +kernel
theorem fs_X12_termOf : (yX12_termOf).cls ≠ "java/lang/String" := by decide +kernel
theorem fA109 : ∀ im : gm_I, gm_at im 128 109 = some (1, 260) := fun _ => rfl
theorem fA110 : ∀ im : gm_I, gm_at im 128 110 = some (1, 260) := fun _ => rfl
set_option maxRecDepth 20000 in
theorem k_X12_goodOf : gm_MT[214]? = some (12, yX12_goodOf, cX12_goodOf, 4, (some .int), 3, 77, 0, 0, 0, 3) := rfl
theorem fC12_331 : gm_c 12 331 = some (1, 211, 1662, 1664, 75) := by decide +kernel
theorem fX_X12_looks : vwCl.findIdx? (fun c => c.1 == (yX12_looks).cls) = some 11 := by decide +kernel
theorem fs_X12_looks : (yX12_looks).cls ≠ "java/lang/String" := by decide +kernel
theorem fC12_335 : gm_c 12 335 = some (1, 212, 1666, 1668, 76) := by decide +kernel
theorem fX_X12_asks : vwCl.findIdx? (fun c => c.1 == (yX12_asks).cls) = some 11 := by decide +kernel
theorem fs_X12_asks : (yX12_asks).cls ≠ "java/lang/String" := by decide +kernel
set_option maxRecDepth 20000 in
theorem k_X12_goodNow : gm_MT[215]? = some (12, yX12_goodNow, cX12_goodNow, 3, (some .int), 4, 100, 0, 0, 0, 2) := rfl
theorem fC12_339 : gm_c 12 339 = some (1, 214, 1658, 1660, 74) := by decide +kernel
theorem fX_X12_goodOf : vwCl.findIdx? (fun c => c.1 == (yX12_goodOf).cls) = some 11 := by decide +kernel
theorem fs_X12_goodOf : (yX12_goodOf).cls ≠ "java/lang/String" := by decide +kernel
set_option maxRecDepth 20000 in
theorem k_X12_markBy : gm_MT[216]? = some (12, yX12_markBy, cX12_markBy, 7, (some .int), 3, 77, 0, 0, 0, 5) := rfl
theorem fC12_342 : gm_c 12 342 = some (1, 210, 1638, 1640, 71) := by decide +kernel
theorem fX_X12_pleadsFor : vwCl.findIdx? (fun c => c.1 == (yX12_pleadsFor).cls) = some 11 := by decide +kernel
theorem fs_X12_pleadsFor : (yX12_pleadsFor).cls ≠ "java/lang/String" := by decide +kernel
set_option maxRecDepth 20000 in
theorem k_X12_sumBy : gm_MT[217]? = some (12, yX12_sumBy, cX12_sumBy, 8, (some .int), 4, 103, 0, 0, 0, 5) := rfl
theorem fC12_345 : gm_c 12 345 = some (1, 216, 1686, 1688, 80) := by decide +kernel
theorem fX_X12_markBy : vwCl.findIdx? (fun c => c.1 == (yX12_markBy).cls) = some 11 := by decide +kernel
theorem fs_X12_markBy : (yX12_markBy).cls ≠ "java/lang/String" := by decide +kernel
set_option maxRecDepth 20000 in
theorem k_X12_sumNow : gm_MT[218]? = some (12, yX12_sumNow, cX12_sumNow, 3, (some .int), 5, 130, 0, 0, 0, 2) := rfl
theorem fC12_349 : gm_c 12 349 = some (1, 215, 1682, 1684, 79) := by decide +kernel
theorem fX_X12_goodNow : vwCl.findIdx? (fun c => c.1 == (yX12_goodNow).cls) = some 11 := by decide +kernel
theorem fs_X12_goodNow : (yX12_goodNow).cls ≠ "java/lang/String" := by decide +kernel
theorem fC12_352 : gm_c 12 352 = some (1, 217, 1698, 1700, 82) := by decide +kernel
theorem fX_X12_sumBy : vwCl.findIdx? (fun c => c.1 == (yX12_sumBy).cls) = some 11 := by decide +kernel
theorem fs_X12_sumBy : (yX12_sumBy).cls ≠ "java/lang/String" := by decide +kernel
set_option maxRecDepth 20000 in
theorem k_X12_speakers : gm_MT[219]? = some (12, yX12_speakers, cX12_speakers, 4, (some .int), 0, 0, 0, 0, 0, 1) := rfl
set_option maxRecDepth 20000 in
theorem k_X12_fillsSums : gm_MT[220]? = some (12, yX12_fillsSums, cX12_fillsSums, 7, none, 5, 130, 0, 0, 0, 3) := rfl
theorem fY11_52 : gm_fy 11 52 = 2 := by decide +kernel
theorem fF12_119 : gm_f 12 119 = some (0, 11, 52, 1350) := by decide +kernel
theorem fR84_52 : gm_RF 84 52 = some 118 := rfl
theorem fL118 : gm_LAY[118]? = some (1, 3) := by decide +kernel
theorem fY11_53 : gm_fy 11 53 = 2 := by decide +kernel
theorem fF12_122 : gm_f 12 122 = some (0, 11, 53, 1351) := by decide +kernel
theorem fR84_53 : gm_RF 84 53 = some 119 := rfl
theorem fL119 : gm_LAY[119]? = some (1, 3) := by decide +kernel
theorem fA118 : ∀ im : gm_I, gm_at im 128 118 = some (1, 3) := fun _ => rfl
theorem fA119 : ∀ im : gm_I, gm_at im 128 119 = some (1, 3) := fun _ => rfl
set_option maxRecDepth 20000 in
theorem k_X12_meanOf : gm_MT[221]? = some (12, yX12_meanOf, cX12_meanOf, 2, (some .int), 0, 0, 0, 0, 0, 1) := rfl
set_option maxRecDepth 20000 in
theorem k_X12_bestSide : gm_MT[222]? = some (12, yX12_bestSide, cX12_bestSide, 3, (some .int), 1, 21, 0, 0, 0, 0) := rfl
theorem fC12_355 : gm_c 12 355 = some (1, 221, 1762, 1764, 92) := by decide +kernel
theorem fX_X12_meanOf : vwCl.findIdx? (fun c => c.1 == (yX12_meanOf).cls) = some 11 := by decide +kernel
theorem fs_X12_meanOf : (yX12_meanOf).cls ≠ "java/lang/String" := by decide +kernel
set_option maxRecDepth 20000 in
theorem k_X12_fallsTo : gm_MT[223]? = some (12, yX12_fallsTo, cX12_fallsTo, 3, (some .int), 6, 156, 0, 0, 0, 2) := rfl
theorem fC12_358 : gm_c 12 358 = some (1, 220, 1754, 1756, 90) := by decide +kernel
theorem fX_X12_fillsSums : vwCl.findIdx? (fun c => c.1 == (yX12_fillsSums).cls) = some 11 := by decide +kernel
theorem fs_X12_fillsSums : (yX12_fillsSums).cls ≠ "java/lang/String" := by decide +kernel
theorem fC12_361 : gm_c 12 361 = some (1, 222, 1758, 1760, 91) := by decide +kernel
theorem fX_X12_bestSide : vwCl.findIdx? (fun c => c.1 == (yX12_bestSide).cls) = some 11 := by decide +kernel
theorem fs_X12_bestSide : (yX12_bestSide).cls ≠ "java/lang/String" := by decide +kernel
set_option maxRecDepth 20000 in
theorem k_X12_fineOf : gm_MT[224]? = some (12, yX12_fineOf, cX12_fineOf, 5, (some .int), 6, 152, 0, 0, 0, 2) := rfl
theorem fC12_364 : gm_c 12 364 = some (1, 218, 1694, 1696, 81) := by decide +kernel
theorem fX_X12_sumNow : vwCl.findIdx? (fun c => c.1 == (yX12_sumNow).cls) = some 11 := by decide +kernel
theorem fs_X12_sumNow : (yX12_sumNow).cls ≠ "java/lang/String" := by decide +kernel
set_option maxRecDepth 20000 in
theorem k_X12_silences : gm_MT[225]? = some (12, yX12_silences, cX12_silences, 2, none, 0, 0, 0, 0, 0, 1) := rfl
set_option maxRecDepth 20000 in
theorem k_X12_sits : gm_MT[226]? = some (12, yX12_sits, cX12_sits, 8, (some .int), 7, 178, 0, 0, 0, 1) := rfl
theorem fC12_367 : gm_c 12 367 = some (1, 219, 1650, 1652, 73) := by decide +kernel
theorem fX_X12_speakers : vwCl.findIdx? (fun c => c.1 == (yX12_speakers).cls) = some 11 := by decide +kernel
theorem fs_X12_speakers : (yX12_speakers).cls ≠ "java/lang/String" := by decide +kernel
theorem fC12_370 : gm_c 12 370 = some (1, 209, 1742, 1744, 88) := by decide +kernel
theorem fX_X12_slips : vwCl.findIdx? (fun c => c.1 == (yX12_slips).cls) = some 11 := by decide +kernel
theorem fs_X12_slips : (yX12_slips).cls ≠ "java/lang/String" := by decide +kernel
theorem fC12_373 : gm_c 12 373 = some (1, 223, 1750, 1752, 89) := by decide +kernel
theorem fX_X12_fallsTo : vwCl.findIdx? (fun c => c.1 == (yX12_fallsTo).cls) = some 11 := by decide +kernel
theorem fs_X12_fallsTo : (yX12_fallsTo).cls ≠ "java/lang/String" := by decide +kernel
theorem fC12_376 : gm_c 12 376 = some (1, 224, 1766, 1768, 93) := by decide +kernel
theorem fX_X12_fineOf : vwCl.findIdx? (fun c => c.1 == (yX12_fineOf).cls) = some 11 := by decide +kernel
theorem fs_X12_fineOf : (yX12_fineOf).cls ≠ "java/lang/String" := by decide +kernel
theorem fC12_379 : gm_c 12 379 = some (1, 225, 1706, 1708, 83) := by decide +kernel
theorem fX_X12_silences : vwCl.findIdx? (fun c => c.1 == (yX12_silences).cls) = some 11 := by decide +kernel
theorem fs_X12_silences : (yX12_silences).cls ≠ "java/lang/String" := by decide +kernel
set_option maxRecDepth 20000 in
theorem k_X12_man : gm_MT[227]? = some (12, yX12_man, cX12_man, 3, (some .int), 2, 43, 0, 0, 0, 2) := rfl
theorem fC12_382 : gm_c 12 382 = some (1, 202, 1627, 1629, 69) := by decide +kernel
theorem fX_X12_isMan : vwCl.findIdx? (fun c => c.1 == (yX12_isMan).cls) = some 11 := by decide +kernel
theorem fs_X12_isMan : (yX12_isMan).cls ≠ "java/lang/String" := by decide +kernel
theorem fC12_385 : gm_c 12 385 = some (1, 207, 1634, 1636, 70) := by decide +kernel
theorem fX_X12_copies : vwCl.findIdx? (fun c => c.1 == (yX12_copies).cls) = some 11 := by decide +kernel
theorem fs_X12_copies : (yX12_copies).cls ≠ "java/lang/String" := by decide +kernel
set_option maxRecDepth 20000 in
theorem k_X12_motion : gm_MT[228]? = some (12, yX12_motion, cX12_motion, 3, (some .int), 2, 43, 0, 0, 0, 2) := rfl
theorem fC12_388 : gm_c 12 388 = some (1, 203, 1646, 1648, 72) := by decide +kernel
theorem fX_X12_isMotion : vwCl.findIdx? (fun c => c.1 == (yX12_isMotion).cls) = some 11 := by decide +kernel
theorem fs_X12_isMotion : (yX12_isMotion).cls ≠ "java/lang/String" := by decide +kernel
theorem fA100 : ∀ im : gm_I, gm_at im 128 100 = some (1, 30) := fun _ => rfl
set_option maxRecDepth 20000 in
theorem k_X12_argues : gm_MT[229]? = some (12, yX12_argues, cX12_argues, 4, (some .int), 4, 100, 0, 0, 0, 3) := rfl
set_option maxRecDepth 20000 in
theorem k_X12_mark : gm_MT[230]? = some (12, yX12_mark, cX12_mark, 4, (some .int), 5, 122, 0, 0, 0, 3) := rfl
set_option maxRecDepth 20000 in
theorem k_X12_sum : gm_MT[231]? = some (12, yX12_sum, cX12_sum, 3, (some .int), 6, 152, 0, 0, 0, 2) := rfl
set_option maxRecDepth 20000 in
theorem k_X12_keeps : gm_MT[232]? = some (12, yX12_keeps, cX12_keeps, 2, none, 1, 21, 0, 0, 0, 0) := rfl
theorem fY11_55 : gm_fy 11 55 = 2 := by decide +kernel
theorem fF12_125 : gm_f 12 125 = some (0, 11, 55, 1353) := by decide +kernel
theorem fR84_55 : gm_RF 84 55 = some 120 := rfl
theorem fA120 : ∀ im : gm_I, gm_at im 128 120 = some (1, 3200) := fun _ => rfl
theorem fL120 : gm_LAY[120]? = some (1, 3200) := by decide +kernel
set_option maxRecDepth 20000 in
theorem k_X12_speak : gm_MT[233]? = some (12, yX12_speak, cX12_speak, 4, (some .boolean), 2, 43, 0, 0, 0, 3) := rfl
theorem fC12_391 : gm_c 12 391 = some (1, 232, 1710, 1712, 84) := by decide +kernel
theorem fX_X12_keeps : vwCl.findIdx? (fun c => c.1 == (yX12_keeps).cls) = some 11 := by decide +kernel
theorem fs_X12_keeps : (yX12_keeps).cls ≠ "java/lang/String" := by decide +kernel
set_option maxRecDepth 20000 in
theorem k_X12_praise : gm_MT[234]? = some (12, yX12_praise, cX12_praise, 2, (some .int), 2, 43, 0, 0, 0, 1) := rfl
set_option maxRecDepth 20000 in
theorem k_X12_reads : gm_MT[235]? = some (12, yX12_reads, cX12_reads, 4, (some .int), 2, 43, 0, 0, 0, 2) := rfl
set_option maxRecDepth 20000 in
theorem k_X12_swears : gm_MT[236]? = some (12, yX12_swears, cX12_swears, 3, none, 0, 0, 0, 0, 0, 2) := rfl
set_option maxRecDepth 20000 in
theorem k_X12_swear : gm_MT[237]? = some (12, yX12_swear, cX12_swear, 3, (some .boolean), 2, 43, 0, 0, 0, 2) := rfl
theorem fC12_394 : gm_c 12 394 = some (1, 204, 1726, 1728, 85) := by decide +kernel
theorem fX_X12_isSide : vwCl.findIdx? (fun c => c.1 == (yX12_isSide).cls) = some 11 := by decide +kernel
theorem fs_X12_isSide : (yX12_isSide).cls ≠ "java/lang/String" := by decide +kernel
theorem fC12_397 : gm_c 12 397 = some (1, 236, 1730, 1732, 86) := by decide +kernel
theorem fX_X12_swears : vwCl.findIdx? (fun c => c.1 == (yX12_swears).cls) = some 11 := by decide +kernel
theorem fs_X12_swears : (yX12_swears).cls ≠ "java/lang/String" := by decide +kernel
set_option maxRecDepth 20000 in
theorem k_X12_session : gm_MT[238]? = some (12, yX12_session, cX12_session, 3, (some .int), 8, 205, 0, 0, 0, 1) := rfl
theorem fC12_400 : gm_c 12 400 = some (1, 226, 1738, 1740, 87) := by decide +kernel
theorem fX_X12_sits : vwCl.findIdx? (fun c => c.1 == (yX12_sits).cls) = some 11 := by decide +kernel
theorem fs_X12_sits : (yX12_sits).cls ≠ "java/lang/String" := by decide +kernel
set_option maxRecDepth 20000 in
theorem k_X12_undo : gm_MT[239]? = some (12, yX12_undo, cX12_undo, 2, (some .boolean), 0, 0, 0, 0, 0, 0) := rfl
set_option maxRecDepth 20000 in
theorem k_X12_now : gm_MT[240]? = some (12, yX12_now, cX12_now, 3, (some .int), 7, 178, 0, 0, 0, 2) := rfl
set_option maxRecDepth 20000 in
theorem k_X12_common : gm_MT[241]? = some (12, yX12_common, cX12_common, 5, (some .int), 0, 0, 0, 0, 0, 2) := rfl
set_option maxRecDepth 20000 in
theorem k_X12_tens : gm_MT[242]? = some (12, yX12_tens, cX12_tens, 3, (some .int), 0, 0, 0, 0, 0, 1) := rfl
set_option maxRecDepth 20000 in
theorem k_X12_oftenFalls : gm_MT[243]? = some (12, yX12_oftenFalls, cX12_oftenFalls, 8, (some .int), 7, 178, 0, 0, 0, 2) := rfl
set_option maxRecDepth 20000 in
theorem k_X12_lineOf : gm_MT[244]? = some (12, yX12_lineOf, cX12_lineOf, 6, (some .int), 1, 24, 0, 0, 0, 3) := rfl
theorem fC12_403 : gm_c 12 403 = some (0, 201, 1794, 1795, 0) := by decide +kernel
theorem fC12_406 : gm_c 12 406 = some (0, 242, 1797, 1798, 0) := by decide +kernel
theorem fC12_409 : gm_c 12 409 = some (0, 241, 1800, 1801, 0) := by decide +kernel
set_option maxRecDepth 20000 in
theorem k_X12_isAsked : gm_MT[245]? = some (12, yX12_isAsked, cX12_isAsked, 3, (some .boolean), 2, 43, 0, 0, 0, 2) := rfl
set_option maxRecDepth 20000 in
theorem k_X12_likely : gm_MT[246]? = some (12, yX12_likely, cX12_likely, 4, (some .int), 8, 205, 0, 0, 0, 3) := rfl
theorem fC12_412 : gm_c 12 412 = some (1, 245, 1782, 1784, 94) := by decide +kernel
theorem fX_X12_isAsked : vwCl.findIdx? (fun c => c.1 == (yX12_isAsked).cls) = some 11 := by decide +kernel
theorem fs_X12_isAsked : (yX12_isAsked).cls ≠ "java/lang/String" := by decide +kernel
theorem fC12_416 : gm_c 12 416 = some (1, 243, 1786, 1788, 95) := by decide +kernel
theorem fX_X12_oftenFalls : vwCl.findIdx? (fun c => c.1 == (yX12_oftenFalls).cls) = some 11 := by decide +kernel
theorem fs_X12_oftenFalls : (yX12_oftenFalls).cls ≠ "java/lang/String" := by decide +kernel
theorem fC12_419 : gm_c 12 419 = some (1, 244, 1790, 1792, 96) := by decide +kernel
theorem fX_X12_lineOf : vwCl.findIdx? (fun c => c.1 == (yX12_lineOf).cls) = some 11 := by decide +kernel
theorem fs_X12_lineOf : (yX12_lineOf).cls ≠ "java/lang/String" := by decide +kernel
set_option maxRecDepth 20000 in
theorem k_X12_change : gm_MT[247]? = some (12, yX12_change, cX12_change, 8, (some .int), 7, 178, 0, 0, 0, 3) := rfl
set_option maxRecDepth 20000 in
theorem k_X12_setsManners : gm_MT[248]? = some (12, yX12_setsManners, cX12_setsManners, 3, none, 0, 0, 0, 0, 0, 1) := rfl
theorem fY11_57 : gm_fy 11 57 = 0 := by decide +kernel
theorem fF12_423 : gm_f 12 423 = some (0, 11, 57, 1355) := by decide +kernel
theorem fY11_56 : gm_fy 11 56 = 2 := by decide +kernel
theorem fF12_128 : gm_f 12 128 = some (0, 11, 56, 1354) := by decide +kernel
theorem fR84_56 : gm_RF 84 56 = some 121 := rfl
theorem fA121 : ∀ im : gm_I, gm_at im 128 121 = some (1, 3) := fun _ => rfl
set_option maxRecDepth 20000 in
theorem k_X12_fillsChosen : gm_MT[249]? = some (12, yX12_fillsChosen, cX12_fillsChosen, 5, none, 8, 205, 0, 0, 0, 2) := rfl
theorem fN11_57 : gm_fin 11 57 = false := by decide +kernel
theorem fL121 : gm_LAY[121]? = some (1, 3) := by decide +kernel
theorem fY11_58 : gm_fy 11 58 = 0 := by decide +kernel
theorem fF12_426 : gm_f 12 426 = some (0, 11, 58, 1356) := by decide +kernel
theorem fN11_58 : gm_fin 11 58 = false := by decide +kernel
theorem fC12_429 : gm_c 12 429 = some (1, 248, 1815, 1817, 98) := by decide +kernel
theorem fX_X12_setsManners : vwCl.findIdx? (fun c => c.1 == (yX12_setsManners).cls) = some 11 := by decide +kernel
theorem fs_X12_setsManners : (yX12_setsManners).cls ≠ "java/lang/String" := by decide +kernel
theorem fY11_59 : gm_fy 11 59 = 0 := by decide +kernel
theorem fF12_432 : gm_f 12 432 = some (0, 11, 59, 1357) := by decide +kernel
theorem fN11_59 : gm_fin 11 59 = false := by decide +kernel
set_option maxRecDepth 20000 in
theorem k_X12_choose : gm_MT[250]? = some (12, yX12_choose, cX12_choose, 4, (some .int), 9, 229, 0, 0, 0, 3) := rfl
theorem fC12_435 : gm_c 12 435 = some (1, 249, 1811, 1813, 97) := by decide +kernel
theorem fX_X12_fillsChosen : vwCl.findIdx? (fun c => c.1 == (yX12_fillsChosen).cls) = some 11 := by decide +kernel
theorem fs_X12_fillsChosen : (yX12_fillsChosen).cls ≠ "java/lang/String" := by decide +kernel
set_option maxRecDepth 20000 in
theorem k_X12_chosen : gm_MT[251]? = some (12, yX12_chosen, cX12_chosen, 4, (some .int), 9, 229, 0, 0, 0, 3) := rfl
set_option maxRecDepth 20000 in
theorem k_X12_hasBy : gm_MT[252]? = some (12, yX12_hasBy, cX12_hasBy, 4, (some .int), 0, 0, 0, 0, 0, 3) := rfl
theorem fY11_60 : gm_fy 11 60 = 2 := by decide +kernel
theorem fF12_131 : gm_f 12 131 = some (0, 11, 60, 1358) := by decide +kernel
theorem fR84_60 : gm_RF 84 60 = some 122 := rfl
theorem fA122 : ∀ im : gm_I, gm_at im 128 122 = some (1, 128) := fun _ => rfl
set_option maxRecDepth 20000 in
theorem k_X12_isResting : gm_MT[253]? = some (12, yX12_isResting, cX12_isResting, 5, (some .boolean), 1, 23, 0, 0, 0, 3) := rfl
theorem fC12_438 : gm_c 12 438 = some (1, 252, 1831, 1833, 100) := by decide +kernel
theorem fX_X12_hasBy : vwCl.findIdx? (fun c => c.1 == (yX12_hasBy).cls) = some 11 := by decide +kernel
theorem fs_X12_hasBy : (yX12_hasBy).cls ≠ "java/lang/String" := by decide +kernel
set_option maxRecDepth 20000 in
theorem k_X12_mumble : gm_MT[254]? = some (12, yX12_mumble, cX12_mumble, 6, (some .int), 7, 178, 0, 0, 0, 2) := rfl
theorem fL122 : gm_LAY[122]? = some (1, 128) := by decide +kernel
theorem fC12_441 : gm_c 12 441 = some (1, 253, 1827, 1829, 99) := by decide +kernel
theorem fX_X12_isResting : vwCl.findIdx? (fun c => c.1 == (yX12_isResting).cls) = some 11 := by decide +kernel
theorem fs_X12_isResting : (yX12_isResting).cls ≠ "java/lang/String" := by decide +kernel
set_option maxRecDepth 20000 in
theorem k_X12_apartNow : gm_MT[255]? = some (12, yX12_apartNow, cX12_apartNow, 5, (some .int), 1, 21, 0, 0, 0, 0) := rfl
set_option maxRecDepth 20000 in
theorem k_X12_jury : gm_MT[256]? = some (12, yX12_jury, cX12_jury, 8, (some .int), 6, 156, 0, 0, 0, 3) := rfl
theorem fC12_444 : gm_c 12 444 = some (1, 255, 1839, 1841, 101) := by decide +kernel
theorem fX_X12_apartNow : vwCl.findIdx? (fun c => c.1 == (yX12_apartNow).cls) = some 11 := by decide +kernel
theorem fs_X12_apartNow : (yX12_apartNow).cls ≠ "java/lang/String" := by decide +kernel
set_option maxRecDepth 20000 in
theorem k_X12_say : gm_MT[257]? = some (12, yX12_say, cX12_say, 4, (some .int), 5, 130, 0, 0, 0, 2) := rfl
set_option maxRecDepth 20000 in
theorem k_X12_fine : gm_MT[258]? = some (12, yX12_fine, cX12_fine, 3, (some .int), 7, 176, 0, 0, 0, 2) := rfl
set_option maxRecDepth 20000 in
theorem k_X12_ahead : gm_MT[259]? = some (12, yX12_ahead, cX12_ahead, 5, (some .int), 7, 178, 0, 0, 0, 1) := rfl
set_option maxRecDepth 20000 in
theorem k_X12_givenBy : gm_MT[260]? = some (12, yX12_givenBy, cX12_givenBy, 5, (some .int), 5, 122, 0, 0, 0, 2) := rfl
set_option maxRecDepth 20000 in
theorem k_X12_harsh : gm_MT[261]? = some (12, yX12_harsh, cX12_harsh, 5, (some .int), 6, 146, 0, 0, 0, 2) := rfl
theorem fC12_447 : gm_c 12 447 = some (1, 260, 1859, 1861, 102) := by decide +kernel
theorem fX_X12_givenBy : vwCl.findIdx? (fun c => c.1 == (yX12_givenBy).cls) = some 11 := by decide +kernel
theorem fs_X12_givenBy : (yX12_givenBy).cls ≠ "java/lang/String" := by decide +kernel
set_option maxRecDepth 20000 in
theorem k_X12_praiseFor : gm_MT[262]? = some (12, yX12_praiseFor, cX12_praiseFor, 5, (some .int), 7, 178, 0, 0, 0, 3) := rfl
set_option maxRecDepth 20000 in
theorem k_X12_old : gm_MT[263]? = some (12, yX12_old, cX12_old, 3, (some .int), 6, 152, 0, 0, 0, 2) := rfl
set_option maxRecDepth 20000 in
theorem k_X12_year : gm_MT[264]? = some (12, yX12_year, cX12_year, 6, (some .int), 8, 205, 0, 0, 0, 2) := rfl
set_option maxRecDepth 20000 in
theorem k_X12_tell : gm_MT[265]? = some (12, yX12_tell, cX12_tell, 3, (some .int), 2, 43, 0, 0, 0, 2) := rfl
theorem fY11_62 : gm_fy 11 62 = 2 := by decide +kernel
theorem fF12_134 : gm_f 12 134 = some (0, 11, 62, 1360) := by decide +kernel
theorem fR84_62 : gm_RF 84 62 = some 123 := rfl
theorem fL123 : gm_LAY[123]? = some (1, 20) := by decide +kernel
theorem fY11_63 : gm_fy 11 63 = 2 := by decide +kernel
theorem fF12_137 : gm_f 12 137 = some (0, 11, 63, 1361) := by decide +kernel
theorem fR84_63 : gm_RF 84 63 = some 124 := rfl
theorem fL124 : gm_LAY[124]? = some (1, 20) := by decide +kernel
set_option maxRecDepth 20000 in
theorem k_X12_forget : gm_MT[266]? = some (12, yX12_forget, cX12_forget, 2, (some .int), 0, 0, 0, 0, 0, 0) := rfl
set_option maxRecDepth 20000 in
theorem k_X12_isSo : gm_MT[267]? = some (12, yX12_isSo, cX12_isSo, 5, (some .boolean), 6, 152, 0, 0, 0, 3) := rfl
theorem fA123 : ∀ im : gm_I, gm_at im 128 123 = some (1, 20) := fun _ => rfl
theorem fA124 : ∀ im : gm_I, gm_at im 128 124 = some (1, 20) := fun _ => rfl
set_option maxRecDepth 20000 in
theorem k_X12_speakingAll : gm_MT[268]? = some (12, yX12_speakingAll, cX12_speakingAll, 3, (some .int), 0, 0, 0, 0, 0, 0) := rfl
set_option maxRecDepth 20000 in
theorem k_X12_slipped : gm_MT[269]? = some (12, yX12_slipped, cX12_slipped, 8, (some .int), 7, 176, 0, 0, 0, 2) := rfl
theorem fC12_450 : gm_c 12 450 = some (1, 268, 1887, 1889, 103) := by decide +kernel
theorem fX_X12_speakingAll : vwCl.findIdx? (fun c => c.1 == (yX12_speakingAll).cls) = some 11 := by decide +kernel
theorem fs_X12_speakingAll : (yX12_speakingAll).cls ≠ "java/lang/String" := by decide +kernel
theorem fY11_64 : gm_fy 11 64 = 2 := by decide +kernel
theorem fF12_140 : gm_f 12 140 = some (0, 11, 64, 1362) := by decide +kernel
theorem fR84_64 : gm_RF 84 64 = some 125 := rfl
theorem fC12_453 : gm_c 12 453 = some (1, 267, 1891, 1893, 104) := by decide +kernel
theorem fX_X12_isSo : vwCl.findIdx? (fun c => c.1 == (yX12_isSo).cls) = some 11 := by decide +kernel
theorem fs_X12_isSo : (yX12_isSo).cls ≠ "java/lang/String" := by decide +kernel
theorem fL125 : gm_LAY[125]? = some (3, 14) := by decide +kernel
theorem fA125 : ∀ im : gm_I, gm_at im 128 125 = some (3, 14) := fun _ => rfl
set_option maxRecDepth 20000 in
theorem k_X12_thinks : gm_MT[270]? = some (12, yX12_thinks, cX12_thinks, 5, (some .int), 7, 176, 0, 0, 0, 2) := rfl
set_option maxRecDepth 20000 in
theorem k_X12_hold : gm_MT[271]? = some (12, yX12_hold, cX12_hold, 3, (some .boolean), 1, 22, 0, 0, 0, 1) := rfl
theorem fY11_66 : gm_fy 11 66 = 2 := by decide +kernel
theorem fF12_146 : gm_f 12 146 = some (0, 11, 66, 1364) := by decide +kernel
theorem fR84_66 : gm_RF 84 66 = some 127 := rfl
theorem fL127 : gm_LAY[127]? = some (1, 240) := by decide +kernel
set_option maxRecDepth 20000 in
theorem k_X12_restore : gm_MT[272]? = some (12, yX12_restore, cX12_restore, 3, (some .boolean), 1, 22, 0, 0, 0, 1) := rfl
theorem fA126 : ∀ im : gm_I, gm_at im 128 126 = some (3, 3) := fun _ => rfl
theorem fA127 : ∀ im : gm_I, gm_at im 128 127 = some (1, 240) := fun _ => rfl
set_option maxRecDepth 20000 in
theorem k_X12_count : gm_MT[273]? = some (12, yX12_count, cX12_count, 4, (some .int), 0, 0, 0, 0, 0, 1) := rfl
theorem fV15_264 : gm_k 15 264 = some (65536, 1042) := by decide +kernel
theorem fV15_265 : gm_k 15 265 = some (1431655765, 1071) := by decide +kernel
theorem fV15_266 : gm_k 15 266 = some (858993459, 1072) := by decide +kernel
theorem fV15_267 : gm_k 15 267 = some (252645135, 1073) := by decide +kernel
