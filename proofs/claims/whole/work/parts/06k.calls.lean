/-! a run of the pure machine is a run of the true one: written by wip/whole/gen_sound.py -/
def gm_LK : Nat := 304
set_option maxRecDepth 100000 in
theorem gm_MT_len : gm_MT.length = 306 := by decide +kernel
theorem gm_cdc_0 (j : Nat) (hj : j < 16) (N : gm_M) (h : gm_MT[0 + j]? = some N) (hk : 0 + j ≠ gm_LK) : Jvm.Cond.code (gm_y N) (gm_b N) (gm_ml N) (gm_ret N) ∈ lw_tbl := by
  match j, hj with
  | 0, _ => cases h; exact gm_wd_in gm_cw0
  | 1, _ => cases h; exact gm_wd_in gm_cw1
  | 2, _ => cases h; exact gm_wd_in gm_cw2
  | 3, _ => cases h; exact gm_wd_in gm_cw3
  | 4, _ => cases h; exact gm_wd_in gm_cw4
  | 5, _ => cases h; exact gm_wd_in gm_cw5
  | 6, _ => cases h; exact gm_wd_in gm_cw6
  | 7, _ => cases h; exact gm_wd_in gm_cw7
  | 8, _ => cases h; exact gm_wd_in gm_cw8
  | 9, _ => cases h; exact gm_wd_in gm_cw9
  | 10, _ => cases h; exact gm_wd_in gm_cw10
  | 11, _ => cases h; exact gm_wd_in gm_cw11
  | 12, _ => cases h; exact gm_wd_in gm_cw12
  | 13, _ => cases h; exact gm_wd_in gm_cw13
  | 14, _ => cases h; exact gm_wd_in gm_cw14
  | 15, _ => cases h; exact gm_wd_in gm_cw15
  | j + 16, hj => omega
theorem gm_cdc_1 (j : Nat) (hj : j < 16) (N : gm_M) (h : gm_MT[16 + j]? = some N) (hk : 16 + j ≠ gm_LK) : Jvm.Cond.code (gm_y N) (gm_b N) (gm_ml N) (gm_ret N) ∈ lw_tbl := by
  match j, hj with
  | 0, _ => cases h; exact gm_wd_in gm_cw16
  | 1, _ => cases h; exact gm_wd_in gm_cw17
  | 2, _ => cases h; exact gm_wd_in gm_cw18
  | 3, _ => cases h; exact gm_wd_in gm_cw19
  | 4, _ => cases h; exact gm_wd_in gm_cw20
  | 5, _ => cases h; exact gm_wd_in gm_cw21
  | 6, _ => cases h; exact gm_wd_in gm_cw22
  | 7, _ => cases h; exact gm_wd_in gm_cw23
  | 8, _ => cases h; exact gm_wd_in gm_cw24
  | 9, _ => cases h; exact gm_wd_in gm_cw25
  | 10, _ => cases h; exact gm_wd_in gm_cw26
  | 11, _ => cases h; exact gm_wd_in gm_cw27
  | 12, _ => cases h; exact gm_wd_in gm_cw28
  | 13, _ => cases h; exact gm_wd_in gm_cw29
  | 14, _ => cases h; exact gm_wd_in gm_cw30
  | 15, _ => cases h; exact gm_wd_in gm_cw31
  | j + 16, hj => omega
theorem gm_cdc_2 (j : Nat) (hj : j < 16) (N : gm_M) (h : gm_MT[32 + j]? = some N) (hk : 32 + j ≠ gm_LK) : Jvm.Cond.code (gm_y N) (gm_b N) (gm_ml N) (gm_ret N) ∈ lw_tbl := by
  match j, hj with
  | 0, _ => cases h; exact gm_wd_in gm_cw32
  | 1, _ => cases h; exact gm_wd_in gm_cw33
  | 2, _ => cases h; exact gm_wd_in gm_cw34
  | 3, _ => cases h; exact gm_wd_in gm_cw35
  | 4, _ => cases h; exact gm_wd_in gm_cw36
  | 5, _ => cases h; exact gm_wd_in gm_cw37
  | 6, _ => cases h; exact gm_wd_in gm_cw38
  | 7, _ => cases h; exact gm_wd_in gm_cw39
  | 8, _ => cases h; exact gm_wd_in gm_cw40
  | 9, _ => cases h; exact gm_wd_in gm_cw41
  | 10, _ => cases h; exact gm_wd_in gm_cw42
  | 11, _ => cases h; exact gm_wd_in gm_cw43
  | 12, _ => cases h; exact gm_wd_in gm_cw44
  | 13, _ => cases h; exact gm_wd_in gm_cw45
  | 14, _ => cases h; exact gm_wd_in gm_cw46
  | 15, _ => cases h; exact gm_wd_in gm_cw47
  | j + 16, hj => omega
theorem gm_cdc_3 (j : Nat) (hj : j < 16) (N : gm_M) (h : gm_MT[48 + j]? = some N) (hk : 48 + j ≠ gm_LK) : Jvm.Cond.code (gm_y N) (gm_b N) (gm_ml N) (gm_ret N) ∈ lw_tbl := by
  match j, hj with
  | 0, _ => cases h; exact gm_wd_in gm_cw48
  | 1, _ => cases h; exact gm_wd_in gm_cw49
  | 2, _ => cases h; exact gm_wd_in gm_cw50
  | 3, _ => cases h; exact gm_wd_in gm_cw51
  | 4, _ => cases h; exact gm_wd_in gm_cw52
  | 5, _ => cases h; exact gm_wd_in gm_cw53
  | 6, _ => cases h; exact gm_wd_in gm_cw54
  | 7, _ => cases h; exact gm_wd_in gm_cw55
  | 8, _ => cases h; exact gm_wd_in gm_cw56
  | 9, _ => cases h; exact gm_wd_in gm_cw57
  | 10, _ => cases h; exact gm_wd_in gm_cw58
  | 11, _ => cases h; exact gm_wd_in gm_cw59
  | 12, _ => cases h; exact gm_wd_in gm_cw60
  | 13, _ => cases h; exact gm_wd_in gm_cw61
  | 14, _ => cases h; exact gm_wd_in gm_cw62
  | 15, _ => cases h; exact gm_wd_in gm_cw63
  | j + 16, hj => omega
theorem gm_cdc_4 (j : Nat) (hj : j < 16) (N : gm_M) (h : gm_MT[64 + j]? = some N) (hk : 64 + j ≠ gm_LK) : Jvm.Cond.code (gm_y N) (gm_b N) (gm_ml N) (gm_ret N) ∈ lw_tbl := by
  match j, hj with
  | 0, _ => cases h; exact gm_wd_in gm_cw64
  | 1, _ => cases h; exact gm_wd_in gm_cw65
  | 2, _ => cases h; exact gm_wd_in gm_cw66
  | 3, _ => cases h; exact gm_wd_in gm_cw67
  | 4, _ => cases h; exact gm_wd_in gm_cw68
  | 5, _ => cases h; exact gm_wd_in gm_cw69
  | 6, _ => cases h; exact gm_wd_in gm_cw70
  | 7, _ => cases h; exact gm_wd_in gm_cw71
  | 8, _ => cases h; exact gm_wd_in gm_cw72
  | 9, _ => cases h; exact gm_wd_in gm_cw73
  | 10, _ => cases h; exact gm_wd_in gm_cw74
  | 11, _ => cases h; exact gm_wd_in gm_cw75
  | 12, _ => cases h; exact gm_wd_in gm_cw76
  | 13, _ => cases h; exact gm_wd_in gm_cw77
  | 14, _ => cases h; exact gm_wd_in gm_cw78
  | 15, _ => cases h; exact gm_wd_in gm_cw79
  | j + 16, hj => omega
theorem gm_cdc_5 (j : Nat) (hj : j < 16) (N : gm_M) (h : gm_MT[80 + j]? = some N) (hk : 80 + j ≠ gm_LK) : Jvm.Cond.code (gm_y N) (gm_b N) (gm_ml N) (gm_ret N) ∈ lw_tbl := by
  match j, hj with
  | 0, _ => cases h; exact gm_wd_in gm_cw80
  | 1, _ => cases h; exact gm_wd_in gm_cw81
  | 2, _ => cases h; exact gm_wd_in gm_cw82
  | 3, _ => cases h; exact gm_wd_in gm_cw83
  | 4, _ => cases h; exact gm_wd_in gm_cw84
  | 5, _ => cases h; exact gm_wd_in gm_cw85
  | 6, _ => cases h; exact gm_wd_in gm_cw86
  | 7, _ => cases h; exact gm_wd_in gm_cw87
  | 8, _ => cases h; exact gm_wd_in gm_cw88
  | 9, _ => cases h; exact gm_wd_in gm_cw89
  | 10, _ => cases h; exact gm_wd_in gm_cw90
  | 11, _ => cases h; exact gm_wd_in gm_cw91
  | 12, _ => cases h; exact gm_wd_in gm_cw92
  | 13, _ => cases h; exact gm_wd_in gm_cw93
  | 14, _ => cases h; exact gm_wd_in gm_cw94
  | 15, _ => cases h; exact gm_wd_in gm_cw95
  | j + 16, hj => omega
theorem gm_cdc_6 (j : Nat) (hj : j < 16) (N : gm_M) (h : gm_MT[96 + j]? = some N) (hk : 96 + j ≠ gm_LK) : Jvm.Cond.code (gm_y N) (gm_b N) (gm_ml N) (gm_ret N) ∈ lw_tbl := by
  match j, hj with
  | 0, _ => cases h; exact gm_wd_in gm_cw96
  | 1, _ => cases h; exact gm_wd_in gm_cw97
  | 2, _ => cases h; exact gm_wd_in gm_cw98
  | 3, _ => cases h; exact gm_wd_in gm_cw99
  | 4, _ => cases h; exact gm_wd_in gm_cw100
  | 5, _ => cases h; exact gm_wd_in gm_cw101
  | 6, _ => cases h; exact gm_wd_in gm_cw102
  | 7, _ => cases h; exact gm_wd_in gm_cw103
  | 8, _ => cases h; exact gm_wd_in gm_cw104
  | 9, _ => cases h; exact gm_wd_in gm_cw105
  | 10, _ => cases h; exact gm_wd_in gm_cw106
  | 11, _ => cases h; exact gm_wd_in gm_cw107
  | 12, _ => cases h; exact gm_wd_in gm_cw108
  | 13, _ => cases h; exact gm_wd_in gm_cw109
  | 14, _ => cases h; exact gm_wd_in gm_cw110
  | 15, _ => cases h; exact gm_wd_in gm_cw111
  | j + 16, hj => omega
theorem gm_cdc_7 (j : Nat) (hj : j < 16) (N : gm_M) (h : gm_MT[112 + j]? = some N) (hk : 112 + j ≠ gm_LK) : Jvm.Cond.code (gm_y N) (gm_b N) (gm_ml N) (gm_ret N) ∈ lw_tbl := by
  match j, hj with
  | 0, _ => cases h; exact gm_wd_in gm_cw112
  | 1, _ => cases h; exact gm_wd_in gm_cw113
  | 2, _ => cases h; exact gm_wd_in gm_cw114
  | 3, _ => cases h; exact gm_wd_in gm_cw115
  | 4, _ => cases h; exact gm_wd_in gm_cw116
  | 5, _ => cases h; exact gm_wd_in gm_cw117
  | 6, _ => cases h; exact gm_wd_in gm_cw118
  | 7, _ => cases h; exact gm_wd_in gm_cw119
  | 8, _ => cases h; exact gm_wd_in gm_cw120
  | 9, _ => cases h; exact gm_wd_in gm_cw121
  | 10, _ => cases h; exact gm_wd_in gm_cw122
  | 11, _ => cases h; exact gm_wd_in gm_cw123
  | 12, _ => cases h; exact gm_wd_in gm_cw124
  | 13, _ => cases h; exact gm_wd_in gm_cw125
  | 14, _ => cases h; exact gm_wd_in gm_cw126
  | 15, _ => cases h; exact gm_wd_in gm_cw127
  | j + 16, hj => omega
theorem gm_cdc_8 (j : Nat) (hj : j < 16) (N : gm_M) (h : gm_MT[128 + j]? = some N) (hk : 128 + j ≠ gm_LK) : Jvm.Cond.code (gm_y N) (gm_b N) (gm_ml N) (gm_ret N) ∈ lw_tbl := by
  match j, hj with
  | 0, _ => cases h; exact gm_wd_in gm_cw128
  | 1, _ => cases h; exact gm_wd_in gm_cw129
  | 2, _ => cases h; exact gm_wd_in gm_cw130
  | 3, _ => cases h; exact gm_wd_in gm_cw131
  | 4, _ => cases h; exact gm_wd_in gm_cw132
  | 5, _ => cases h; exact gm_wd_in gm_cw133
  | 6, _ => cases h; exact gm_wd_in gm_cw134
  | 7, _ => cases h; exact gm_wd_in gm_cw135
  | 8, _ => cases h; exact gm_wd_in gm_cw136
  | 9, _ => cases h; exact gm_wd_in gm_cw137
  | 10, _ => cases h; exact gm_wd_in gm_cw138
  | 11, _ => cases h; exact gm_wd_in gm_cw139
  | 12, _ => cases h; exact gm_wd_in gm_cw140
  | 13, _ => cases h; exact gm_wd_in gm_cw141
  | 14, _ => cases h; exact gm_wd_in gm_cw142
  | 15, _ => cases h; exact gm_wd_in gm_cw143
  | j + 16, hj => omega
theorem gm_cdc_9 (j : Nat) (hj : j < 16) (N : gm_M) (h : gm_MT[144 + j]? = some N) (hk : 144 + j ≠ gm_LK) : Jvm.Cond.code (gm_y N) (gm_b N) (gm_ml N) (gm_ret N) ∈ lw_tbl := by
  match j, hj with
  | 0, _ => cases h; exact gm_wd_in gm_cw144
  | 1, _ => cases h; exact gm_wd_in gm_cw145
  | 2, _ => cases h; exact gm_wd_in gm_cw146
  | 3, _ => cases h; exact gm_wd_in gm_cw147
  | 4, _ => cases h; exact gm_wd_in gm_cw148
  | 5, _ => cases h; exact gm_wd_in gm_cw149
  | 6, _ => cases h; exact gm_wd_in gm_cw150
  | 7, _ => cases h; exact gm_wd_in gm_cw151
  | 8, _ => cases h; exact gm_wd_in gm_cw152
  | 9, _ => cases h; exact gm_wd_in gm_cw153
  | 10, _ => cases h; exact gm_wd_in gm_cw154
  | 11, _ => cases h; exact gm_wd_in gm_cw155
  | 12, _ => cases h; exact gm_wd_in gm_cw156
  | 13, _ => cases h; exact gm_wd_in gm_cw157
  | 14, _ => cases h; exact gm_wd_in gm_cw158
  | 15, _ => cases h; exact gm_wd_in gm_cw159
  | j + 16, hj => omega
theorem gm_cdc_10 (j : Nat) (hj : j < 16) (N : gm_M) (h : gm_MT[160 + j]? = some N) (hk : 160 + j ≠ gm_LK) : Jvm.Cond.code (gm_y N) (gm_b N) (gm_ml N) (gm_ret N) ∈ lw_tbl := by
  match j, hj with
  | 0, _ => cases h; exact gm_wd_in gm_cw160
  | 1, _ => cases h; exact gm_wd_in gm_cw161
  | 2, _ => cases h; exact gm_wd_in gm_cw162
  | 3, _ => cases h; exact gm_wd_in gm_cw163
  | 4, _ => cases h; exact gm_wd_in gm_cw164
  | 5, _ => cases h; exact gm_wd_in gm_cw165
  | 6, _ => cases h; exact gm_wd_in gm_cw166
  | 7, _ => cases h; exact gm_wd_in gm_cw167
  | 8, _ => cases h; exact gm_wd_in gm_cw168
  | 9, _ => cases h; exact gm_wd_in gm_cw169
  | 10, _ => cases h; exact gm_wd_in gm_cw170
  | 11, _ => cases h; exact gm_wd_in gm_cw171
  | 12, _ => cases h; exact gm_wd_in gm_cw172
  | 13, _ => cases h; exact gm_wd_in gm_cw173
  | 14, _ => cases h; exact gm_wd_in gm_cw174
  | 15, _ => cases h; exact gm_wd_in gm_cw175
  | j + 16, hj => omega
theorem gm_cdc_11 (j : Nat) (hj : j < 16) (N : gm_M) (h : gm_MT[176 + j]? = some N) (hk : 176 + j ≠ gm_LK) : Jvm.Cond.code (gm_y N) (gm_b N) (gm_ml N) (gm_ret N) ∈ lw_tbl := by
  match j, hj with
  | 0, _ => cases h; exact gm_wd_in gm_cw176
  | 1, _ => cases h; exact gm_wd_in gm_cw177
  | 2, _ => cases h; exact gm_wd_in gm_cw178
  | 3, _ => cases h; exact gm_wd_in gm_cw179
  | 4, _ => cases h; exact gm_wd_in gm_cw180
  | 5, _ => cases h; exact gm_wd_in gm_cw181
  | 6, _ => cases h; exact gm_wd_in gm_cw182
  | 7, _ => cases h; exact gm_wd_in gm_cw183
  | 8, _ => cases h; exact gm_wd_in gm_cw184
  | 9, _ => cases h; exact gm_wd_in gm_cw185
  | 10, _ => cases h; exact gm_wd_in gm_cw186
  | 11, _ => cases h; exact gm_wd_in gm_cw187
  | 12, _ => cases h; exact gm_wd_in gm_cw188
  | 13, _ => cases h; exact gm_wd_in gm_cw189
  | 14, _ => cases h; exact gm_wd_in gm_cw190
  | 15, _ => cases h; exact gm_wd_in gm_cw191
  | j + 16, hj => omega
theorem gm_cdc_12 (j : Nat) (hj : j < 16) (N : gm_M) (h : gm_MT[192 + j]? = some N) (hk : 192 + j ≠ gm_LK) : Jvm.Cond.code (gm_y N) (gm_b N) (gm_ml N) (gm_ret N) ∈ lw_tbl := by
  match j, hj with
  | 0, _ => cases h; exact gm_wd_in gm_cw192
  | 1, _ => cases h; exact gm_wd_in gm_cw193
  | 2, _ => cases h; exact gm_wd_in gm_cw194
  | 3, _ => cases h; exact gm_wd_in gm_cw195
  | 4, _ => cases h; exact gm_wd_in gm_cw196
  | 5, _ => cases h; exact gm_wd_in gm_cw197
  | 6, _ => cases h; exact gm_wd_in gm_cw198
  | 7, _ => cases h; exact gm_wd_in gm_cw199
  | 8, _ => cases h; exact gm_wd_in gm_cw200
  | 9, _ => cases h; exact gm_wd_in gm_cw201
  | 10, _ => cases h; exact gm_wd_in gm_cw202
  | 11, _ => cases h; exact gm_wd_in gm_cw203
  | 12, _ => cases h; exact gm_wd_in gm_cw204
  | 13, _ => cases h; exact gm_wd_in gm_cw205
  | 14, _ => cases h; exact gm_wd_in gm_cw206
  | 15, _ => cases h; exact gm_wd_in gm_cw207
  | j + 16, hj => omega
theorem gm_cdc_13 (j : Nat) (hj : j < 16) (N : gm_M) (h : gm_MT[208 + j]? = some N) (hk : 208 + j ≠ gm_LK) : Jvm.Cond.code (gm_y N) (gm_b N) (gm_ml N) (gm_ret N) ∈ lw_tbl := by
  match j, hj with
  | 0, _ => cases h; exact gm_wd_in gm_cw208
  | 1, _ => cases h; exact gm_wd_in gm_cw209
  | 2, _ => cases h; exact gm_wd_in gm_cw210
  | 3, _ => cases h; exact gm_wd_in gm_cw211
  | 4, _ => cases h; exact gm_wd_in gm_cw212
  | 5, _ => cases h; exact gm_wd_in gm_cw213
  | 6, _ => cases h; exact gm_wd_in gm_cw214
  | 7, _ => cases h; exact gm_wd_in gm_cw215
  | 8, _ => cases h; exact gm_wd_in gm_cw216
  | 9, _ => cases h; exact gm_wd_in gm_cw217
  | 10, _ => cases h; exact gm_wd_in gm_cw218
  | 11, _ => cases h; exact gm_wd_in gm_cw219
  | 12, _ => cases h; exact gm_wd_in gm_cw220
  | 13, _ => cases h; exact gm_wd_in gm_cw221
  | 14, _ => cases h; exact gm_wd_in gm_cw222
  | 15, _ => cases h; exact gm_wd_in gm_cw223
  | j + 16, hj => omega
theorem gm_cdc_14 (j : Nat) (hj : j < 16) (N : gm_M) (h : gm_MT[224 + j]? = some N) (hk : 224 + j ≠ gm_LK) : Jvm.Cond.code (gm_y N) (gm_b N) (gm_ml N) (gm_ret N) ∈ lw_tbl := by
  match j, hj with
  | 0, _ => cases h; exact gm_wd_in gm_cw224
  | 1, _ => cases h; exact gm_wd_in gm_cw225
  | 2, _ => cases h; exact gm_wd_in gm_cw226
  | 3, _ => cases h; exact gm_wd_in gm_cw227
  | 4, _ => cases h; exact gm_wd_in gm_cw228
  | 5, _ => cases h; exact gm_wd_in gm_cw229
  | 6, _ => cases h; exact gm_wd_in gm_cw230
  | 7, _ => cases h; exact gm_wd_in gm_cw231
  | 8, _ => cases h; exact gm_wd_in gm_cw232
  | 9, _ => cases h; exact gm_wd_in gm_cw233
  | 10, _ => cases h; exact gm_wd_in gm_cw234
  | 11, _ => cases h; exact gm_wd_in gm_cw235
  | 12, _ => cases h; exact gm_wd_in gm_cw236
  | 13, _ => cases h; exact gm_wd_in gm_cw237
  | 14, _ => cases h; exact gm_wd_in gm_cw238
  | 15, _ => cases h; exact gm_wd_in gm_cw239
  | j + 16, hj => omega
theorem gm_cdc_15 (j : Nat) (hj : j < 16) (N : gm_M) (h : gm_MT[240 + j]? = some N) (hk : 240 + j ≠ gm_LK) : Jvm.Cond.code (gm_y N) (gm_b N) (gm_ml N) (gm_ret N) ∈ lw_tbl := by
  match j, hj with
  | 0, _ => cases h; exact gm_wd_in gm_cw240
  | 1, _ => cases h; exact gm_wd_in gm_cw241
  | 2, _ => cases h; exact gm_wd_in gm_cw242
  | 3, _ => cases h; exact gm_wd_in gm_cw243
  | 4, _ => cases h; exact gm_wd_in gm_cw244
  | 5, _ => cases h; exact gm_wd_in gm_cw245
  | 6, _ => cases h; exact gm_wd_in gm_cw246
  | 7, _ => cases h; exact gm_wd_in gm_cw247
  | 8, _ => cases h; exact gm_wd_in gm_cw248
  | 9, _ => cases h; exact gm_wd_in gm_cw249
  | 10, _ => cases h; exact gm_wd_in gm_cw250
  | 11, _ => cases h; exact gm_wd_in gm_cw251
  | 12, _ => cases h; exact gm_wd_in gm_cw252
  | 13, _ => cases h; exact gm_wd_in gm_cw253
  | 14, _ => cases h; exact gm_wd_in gm_cw254
  | 15, _ => cases h; exact gm_wd_in gm_cw255
  | j + 16, hj => omega
theorem gm_cdc_16 (j : Nat) (hj : j < 16) (N : gm_M) (h : gm_MT[256 + j]? = some N) (hk : 256 + j ≠ gm_LK) : Jvm.Cond.code (gm_y N) (gm_b N) (gm_ml N) (gm_ret N) ∈ lw_tbl := by
  match j, hj with
  | 0, _ => cases h; exact gm_wd_in gm_cw256
  | 1, _ => cases h; exact gm_wd_in gm_cw257
  | 2, _ => cases h; exact gm_wd_in gm_cw258
  | 3, _ => cases h; exact gm_wd_in gm_cw259
  | 4, _ => cases h; exact gm_wd_in gm_cw260
  | 5, _ => cases h; exact gm_wd_in gm_cw261
  | 6, _ => cases h; exact gm_wd_in gm_cw262
  | 7, _ => cases h; exact gm_wd_in gm_cw263
  | 8, _ => cases h; exact gm_wd_in gm_cw264
  | 9, _ => cases h; exact gm_wd_in gm_cw265
  | 10, _ => cases h; exact gm_wd_in gm_cw266
  | 11, _ => cases h; exact gm_wd_in gm_cw267
  | 12, _ => cases h; exact gm_wd_in gm_cw268
  | 13, _ => cases h; exact gm_wd_in gm_cw269
  | 14, _ => cases h; exact gm_wd_in gm_cw270
  | 15, _ => cases h; exact gm_wd_in gm_cw271
  | j + 16, hj => omega
theorem gm_cdc_17 (j : Nat) (hj : j < 16) (N : gm_M) (h : gm_MT[272 + j]? = some N) (hk : 272 + j ≠ gm_LK) : Jvm.Cond.code (gm_y N) (gm_b N) (gm_ml N) (gm_ret N) ∈ lw_tbl := by
  match j, hj with
  | 0, _ => cases h; exact gm_wd_in gm_cw272
  | 1, _ => cases h; exact gm_wd_in gm_cw273
  | 2, _ => cases h; exact gm_wd_in gm_cw274
  | 3, _ => cases h; exact gm_wd_in gm_cw275
  | 4, _ => cases h; exact gm_wd_in gm_cw276
  | 5, _ => cases h; exact gm_wd_in gm_cw277
  | 6, _ => cases h; exact gm_wd_in gm_cw278
  | 7, _ => cases h; exact gm_wd_in gm_cw279
  | 8, _ => cases h; exact gm_wd_in gm_cw280
  | 9, _ => cases h; exact gm_wd_in gm_cw281
  | 10, _ => cases h; exact gm_wd_in gm_cw282
  | 11, _ => cases h; exact gm_wd_in gm_cw283
  | 12, _ => cases h; exact gm_wd_in gm_cw284
  | 13, _ => cases h; exact gm_wd_in gm_cw285
  | 14, _ => cases h; exact gm_wd_in gm_cw286
  | 15, _ => cases h; exact gm_wd_in gm_cw287
  | j + 16, hj => omega
theorem gm_cdc_18 (j : Nat) (hj : j < 16) (N : gm_M) (h : gm_MT[288 + j]? = some N) (hk : 288 + j ≠ gm_LK) : Jvm.Cond.code (gm_y N) (gm_b N) (gm_ml N) (gm_ret N) ∈ lw_tbl := by
  match j, hj with
  | 0, _ => cases h; exact gm_wd_in gm_cw288
  | 1, _ => cases h; exact gm_wd_in gm_cw289
  | 2, _ => cases h; exact gm_wd_in gm_cw290
  | 3, _ => cases h; exact gm_wd_in gm_cw291
  | 4, _ => cases h; exact gm_wd_in gm_cw292
  | 5, _ => cases h; exact gm_wd_in gm_cw293
  | 6, _ => cases h; exact gm_wd_in gm_cw294
  | 7, _ => cases h; exact gm_wd_in gm_cw295
  | 8, _ => cases h; exact gm_wd_in gm_cw296
  | 9, _ => cases h; exact gm_wd_in gm_cw297
  | 10, _ => cases h; exact gm_wd_in gm_cw298
  | 11, _ => cases h; exact gm_wd_in gm_cw299
  | 12, _ => cases h; exact gm_wd_in gm_cw300
  | 13, _ => cases h; exact gm_wd_in gm_cw301
  | 14, _ => cases h; exact gm_wd_in gm_cw302
  | 15, _ => cases h; exact gm_wd_in gm_cw303
  | j + 16, hj => omega
theorem gm_cdc_19 (j : Nat) (hj : j < 16) (N : gm_M) (h : gm_MT[304 + j]? = some N) (hk : 304 + j ≠ gm_LK) : Jvm.Cond.code (gm_y N) (gm_b N) (gm_ml N) (gm_ret N) ∈ lw_tbl := by
  match j, hj with
  | 0, _ => exact absurd rfl hk
  | 1, _ => cases h; exact gm_wd_in gm_cw305
  | 2, _ => cases h
  | 3, _ => cases h
  | 4, _ => cases h
  | 5, _ => cases h
  | 6, _ => cases h
  | 7, _ => cases h
  | 8, _ => cases h
  | 9, _ => cases h
  | 10, _ => cases h
  | 11, _ => cases h
  | 12, _ => cases h
  | 13, _ => cases h
  | 14, _ => cases h
  | 15, _ => cases h
  | j + 16, hj => omega
theorem gm_code {k : Nat} {N : gm_M} (h : gm_MT[k]? = some N) (hk : k ≠ gm_LK) : Jvm.Cond.code (gm_y N) (gm_b N) (gm_ml N) (gm_ret N) ∈ lw_tbl := by
  have hlt : k < gm_MT.length := (List.getElem?_eq_some_iff.mp h).1
  rw [gm_MT_len] at hlt
  obtain ⟨i, j, hi, hj, rfl⟩ : ∃ i j, i < 20 ∧ j < 16 ∧ k = 16 * i + j := ⟨k / 16, k % 16, by omega, by omega, by omega⟩
  match i, hi with
  | 0, _ => exact gm_cdc_0 j hj N h hk
  | 1, _ => exact gm_cdc_1 j hj N h hk
  | 2, _ => exact gm_cdc_2 j hj N h hk
  | 3, _ => exact gm_cdc_3 j hj N h hk
  | 4, _ => exact gm_cdc_4 j hj N h hk
  | 5, _ => exact gm_cdc_5 j hj N h hk
  | 6, _ => exact gm_cdc_6 j hj N h hk
  | 7, _ => exact gm_cdc_7 j hj N h hk
  | 8, _ => exact gm_cdc_8 j hj N h hk
  | 9, _ => exact gm_cdc_9 j hj N h hk
  | 10, _ => exact gm_cdc_10 j hj N h hk
  | 11, _ => exact gm_cdc_11 j hj N h hk
  | 12, _ => exact gm_cdc_12 j hj N h hk
  | 13, _ => exact gm_cdc_13 j hj N h hk
  | 14, _ => exact gm_cdc_14 j hj N h hk
  | 15, _ => exact gm_cdc_15 j hj N h hk
  | 16, _ => exact gm_cdc_16 j hj N h hk
  | 17, _ => exact gm_cdc_17 j hj N h hk
  | 18, _ => exact gm_cdc_18 j hj N h hk
  | 19, _ => exact gm_cdc_19 j hj N h hk
  | i + 20, hi => omega
set_option maxRecDepth 100000 in
theorem gm_MP_ok : ((List.range 306).all fun k => decide (k = gm_LK) || (match gm_MP[k]? with
  | some q => decide (q.1 ≠ 0)
  | none => false)) = true := by decide +kernel
theorem gm_meth {k : Nat} {N : gm_M} (h : gm_MT[k]? = some N) (hk : k ≠ gm_LK) : Jvm.Cond.initialized (gm_y N).cls ∈ lw_tbl ∧ (plainName (gm_y N).cls = true ∨ (gm_y N).cls = "java/lang/Math") ∧ (gm_y N).cls ≠ "java/lang/invoke/MethodHandle" ∧ (gm_y N).cls ≠ "java/lang/invoke/VarHandle" ∧ (parseMethodDescriptor (gm_y N).desc).map (fun d => d.parameters.length) = some (gm_np N) ∧ gm_On[gm_own N]? = some (gm_y N).cls := by
  have hlt : k < gm_MT.length := (List.getElem?_eq_some_iff.mp h).1
  rw [gm_MT_len] at hlt
  have h1 := List.all_eq_true.mp gm_MP_ok k (List.mem_range.mpr hlt)
  simp only [Bool.or_eq_true, decide_eq_true_eq] at h1
  have h1 := h1.resolve_left hk
  cases hp : gm_MP[k]? with
  | none => simp [hp] at h1
  | some q =>
    simp only [hp, decide_eq_true_eq] at h1
    have hz : (gm_MT.zip gm_MP)[k]? = some (N, q) := List.getElem?_zip_eq_some.mpr ⟨h, hp⟩
    have h2 := List.all_eq_true.mp gm_MT_ok _ (List.mem_of_getElem? hz)
    unfold gm_MTb at h2
    simp only [Bool.or_eq_true, Bool.and_eq_true, decide_eq_true_eq] at h2
    obtain ⟨⟨⟨⟨⟨a1, a2⟩, a3⟩, a4⟩, a5⟩, a6⟩ := h2.resolve_left h1
    exact ⟨gm_wd_in a1, a2, a3, a4, a5, a6⟩
set_option maxRecDepth 100000 in
theorem gm_MS2_ok : (gm_MT.all fun M => decide (gm_ns M = gm_SL (gm_s0 M + gm_nc M) - gm_SL (gm_s0 M))) = true := by decide +kernel
/-- a method's words -/
def gm_ws (N : gm_M) : List Jvm.Cond := Jvm.Cond.code (gm_y N) (gm_b N) (gm_ml N) (gm_ret N) :: gm_T
def gm_room (N : gm_M) : Room := { frames := gm_fr N, cells := gm_nc N, slots := gm_ns N, locals := gm_lo N }
theorem gm_goodIn {k : Nat} {N : gm_M} (h : gm_MT[k]? = some N) (hk : k ≠ gm_LK) : GoodIn gm_T (gm_ws N) := by
  intro w hw
  rcases List.mem_cons.mp hw with rfl | hw
  · exact ⟨gm_T_in (gm_code h hk) rfl, good_of_word rfl⟩
  · exact ⟨hw, good_of_word (List.mem_filter.mp hw).2⟩

/-- how a method ends -/
def gm_rt (M : gm_M) (pc : Nat) (v : Option Value) (st : List Value) : Prop :=
  (∃ (x : Int32) (ty : FieldType), v = some (.int x) ∧ st = [.int x] ∧ gm_ret M = some ty ∧ narrow ty (.int x) = .int x ∧ decode (gm_b M) pc = .ok (.ireturn, 1)) ∨ (∃ x : Int64, v = some (.long x) ∧ st = [.long x] ∧ gm_ret M = some .long ∧ decode (gm_b M) pc = .ok (.lreturn, 1)) ∨ (v = none ∧ st = [] ∧ gm_ret M = none ∧ decode (gm_b M) pc = .ok (.return_, 1))
theorem gm_cl_ret {M : gm_M} {k pc : Nat} {vs st : List Value} {n np : Nat} {x : gm_Res} (h : gm_cl M k pc vs st n np = some (.inr (.inl x))) : False := by
  unfold gm_cl at h
  split at h
  · split at h
    · cases h
    · cases h
  · cases h
theorem gm_stp_ret {M : gm_M} {ins : Instr} {len pc : Nat} {vs st : List Value} {n : Nat} {rf : gm_R} {im : gm_I} {lm : gm_L} {r : gm_Res} (hd : decode (gm_b M) pc = .ok (ins, len)) (hln : gm_lnb ins len = true) (hs : gm_stp M ins pc vs st n rf im lm = some (.inr (.inl r))) : ∃ v, r = (v, n, rf, im, lm) ∧ gm_rt M pc v st := by
  cases ins
  case ireturn =>
    simp only [gm_lnb, decide_eq_true_eq] at hln
    subst hln
    simp only [gm_stp, gm_i] at hs
    split at hs
    · split at hs
      · rename_i hr
        split at hs
        · rename_i ty hty
          split at hs
          · rename_i hc
            cases hs
            subst hr
            exact ⟨_, rfl, Or.inl ⟨_, ty, rfl, rfl, hty, hc.1, hd⟩⟩
          · cases hs
        · cases hs
      · cases hs
    · cases hs
  case lreturn =>
    simp only [gm_lnb, decide_eq_true_eq] at hln
    subst hln
    simp only [gm_stp, gm_l] at hs
    split at hs
    · split at hs
      · rename_i hr
        cases hs
        obtain ⟨rfl, hty⟩ := hr
        exact ⟨_, rfl, Or.inr (Or.inl ⟨_, rfl, rfl, hty, hd⟩)⟩
      · cases hs
    · cases hs
  case return_ =>
    simp only [gm_lnb, decide_eq_true_eq] at hln
    subst hln
    simp only [gm_stp] at hs
    split at hs
    · rename_i hr
      cases hs
      exact ⟨_, rfl, Or.inr (Or.inr ⟨rfl, hr.1, hr.2, hd⟩)⟩
    · cases hs
  all_goals (exfalso; revert hs; simp only [gm_stp, gm_nx, gm_i, gm_ii, gm_l, gm_ll, gm_a, gm_jm, gm_get, gm_put, gm_new, gm_nwa, gm_mna, gm_cl]; repeat' split) <;> (intro hs; cases hs)

/-- how a method calls -/
def gm_ca (M : gm_M) (ins : Instr) (st : List Value) (n k' : Nat) (as rest : List Value) (N : gm_M) : Prop :=
  gm_MT[k']? = some N ∧ gm_rm M N n rest = true ∧ st = as.reverse ++ rest ∧ ∃ (i : Nat) (t : Nat × Nat × Nat),
    (ins = .invokestatic i ∧ gm_c (gm_own M) i = some (0, k', t) ∧ as.length = gm_np N) ∨
    (ins = .invokestatic i ∧ gm_c (gm_own M) i = some (4, k', t) ∧ as.length = gm_np N) ∨
    (ins = .invokevirtual i ∧ gm_c (gm_own M) i = some (1, k', t) ∧ ∃ o as', as = .ref o :: as' ∧ as'.length = gm_np N ∧ (((o = 1010 ∨ o = 1011) ∧ (gm_y N).cls = "java/lang/String") ∨ (o < n ∧ ∃ ci, gm_LAY[o]? = some (0, ci) ∧ vwCl.findIdx? (fun c => c.1 == (gm_y N).cls) = some ci))) ∨
    (ins = .invokespecial i ∧ gm_c (gm_own M) i = some (2, k', t) ∧ ∃ o as', as = .ref o :: as' ∧ as'.length = gm_np N ∧ o < n) ∨
    (ins = .invokespecial i ∧ gm_c (gm_own M) i = some (3, k', t) ∧ ∃ o as', as = .ref o :: as' ∧ as'.length = gm_np N ∧ o < n)
theorem gm_cl_spec {M : gm_M} {k pc : Nat} {vs st : List Value} {n np k' pc' : Nat} {as rest : List Value} (h : gm_cl M k pc vs st n np = some (.inr (.inr (k', as, pc', rest)))) : k' = k ∧ pc' = pc + 3 ∧ st = as.reverse ++ rest ∧ as.length = np ∧ ∃ N, gm_MT[k]? = some N ∧ gm_rm M N n rest = true ∧ as = (st.take np).reverse := by
  unfold gm_cl at h
  split at h
  · rename_i N hN
    split at h
    · rename_i hc
      simp only [Bool.and_eq_true, decide_eq_true_eq] at hc
      cases h
      refine ⟨rfl, rfl, ?_, ?_, N, hN, hc.2, rfl⟩
      · rw [List.reverse_reverse, List.take_append_drop]
      · rw [List.length_reverse, List.length_take]; omega
    · cases h
  · cases h
theorem gm_as_ref {st as rest : List Value} {np o : Nat} (h : st = as.reverse ++ rest) (hl : as.length = np + 1) (ho : st[np]? = some (.ref o)) : ∃ as', as = .ref o :: as' ∧ as'.length = np := by
  cases as with
  | nil => simp at hl
  | cons v as' =>
    have hl2 : as'.length = np := by simpa using hl
    refine ⟨as', ?_, hl2⟩
    rw [h, List.reverse_cons, List.append_assoc, List.getElem?_append_right (by rw [List.length_reverse]; omega), List.length_reverse, hl2, Nat.sub_self] at ho
    simp at ho
    rw [ho]
theorem gm_stp_call {M : gm_M} {ins : Instr} {pc : Nat} {vs st : List Value} {n : Nat} {rf : gm_R} {im : gm_I} {lm : gm_L} {k' pc' : Nat} {as rest : List Value} (hs : gm_stp M ins pc vs st n rf im lm = some (.inr (.inr (k', as, pc', rest)))) : pc' = pc + 3 ∧ ∃ N, gm_ca M ins st n k' as rest N := by
  cases ins
  case invokestatic i =>
    simp only [gm_stp] at hs
    split at hs
    · rename_i k t hk
      split at hs
      · rename_i N hN
        obtain ⟨rfl, rfl, h3, h4, N', hN', h5, -⟩ := gm_cl_spec hs
        cases hN.symm.trans hN'
        exact ⟨rfl, N, hN, h5, h3, i, t, Or.inl ⟨rfl, hk, h4⟩⟩
      · cases hs
    · rename_i k t hk
      split at hs
      · rename_i N hN
        obtain ⟨rfl, rfl, h3, h4, N', hN', h5, -⟩ := gm_cl_spec hs
        cases hN.symm.trans hN'
        exact ⟨rfl, N, hN, h5, h3, i, t, Or.inr (Or.inl ⟨rfl, hk, h4⟩)⟩
      · cases hs
    · exfalso; revert hs; simp only [gm_ii, gm_nx]; repeat' split
      all_goals (intro hs; cases hs)
    · exfalso; revert hs; simp only [gm_ii, gm_nx]; repeat' split
      all_goals (intro hs; cases hs)
    · exfalso; revert hs; simp only [gm_nx]; repeat' split
      all_goals (intro hs; cases hs)
    · cases hs
  case invokevirtual i =>
    simp only [gm_stp] at hs
    split at hs
    · rename_i k t hk
      split at hs
      · rename_i N hN
        split at hs
        · rename_i o ho
          split at hs
          · rename_i hc
            obtain ⟨rfl, rfl, h3, h4, N', hN', h5, -⟩ := gm_cl_spec hs
            cases hN.symm.trans hN'
            obtain ⟨as', ha1, ha2⟩ := gm_as_ref h3 h4 ho
            exact ⟨rfl, N, hN, h5, h3, i, t, Or.inr (Or.inr (Or.inl ⟨rfl, hk, o, as', ha1, ha2, Or.inl hc⟩))⟩
          · split at hs
            · rename_i hc
              obtain ⟨rfl, rfl, h3, h4, N', hN', h5, -⟩ := gm_cl_spec hs
              cases hN.symm.trans hN'
              obtain ⟨as', ha1, ha2⟩ := gm_as_ref h3 h4 ho
              refine ⟨rfl, N, hN, h5, h3, i, t, Or.inr (Or.inr (Or.inl ⟨rfl, hk, o, as', ha1, ha2, Or.inr ⟨hc.1, ?_⟩⟩))⟩
              obtain ⟨-, hc2, hc3⟩ := hc
              cases hf : vwCl.findIdx? (fun c => c.1 == (gm_y N).cls) with
              | none => rw [hf] at hc2; rw [hc2] at hc3; cases hc3
              | some ci => rw [hf] at hc2; exact ⟨ci, hc2, rfl⟩
            · cases hs
        · cases hs
      · cases hs
    · cases hs
  case invokespecial i =>
    simp only [gm_stp] at hs
    split at hs
    · exfalso; revert hs; simp only [gm_a, gm_nx]; repeat' split
      all_goals (intro hs; cases hs)
    · rename_i k t hk
      split at hs
      · rename_i N hN
        split at hs
        · rename_i o ho
          split at hs
          · rename_i hc
            obtain ⟨rfl, rfl, h3, h4, N', hN', h5, -⟩ := gm_cl_spec hs
            cases hN.symm.trans hN'
            obtain ⟨as', ha1, ha2⟩ := gm_as_ref h3 h4 ho
            exact ⟨rfl, N, hN, h5, h3, i, t, Or.inr (Or.inr (Or.inr (Or.inl ⟨rfl, hk, o, as', ha1, ha2, hc⟩)))⟩
          · cases hs
        · cases hs
      · cases hs
    · rename_i k t hk
      split at hs
      · rename_i N hN
        split at hs
        · rename_i o ho
          split at hs
          · rename_i hc
            obtain ⟨rfl, rfl, h3, h4, N', hN', h5, -⟩ := gm_cl_spec hs
            cases hN.symm.trans hN'
            obtain ⟨as', ha1, ha2⟩ := gm_as_ref h3 h4 ho
            exact ⟨rfl, N, hN, h5, h3, i, t, Or.inr (Or.inr (Or.inr (Or.inr ⟨rfl, hk, o, as', ha1, ha2, hc⟩)))⟩
          · cases hs
        · cases hs
      · cases hs
    · cases hs
  all_goals (exfalso; revert hs; simp only [gm_stp, gm_nx, gm_i, gm_ii, gm_l, gm_ll, gm_a, gm_jm, gm_get, gm_put, gm_new, gm_nwa, gm_mna]; repeat' split) <;> (intro hs; cases hs)

