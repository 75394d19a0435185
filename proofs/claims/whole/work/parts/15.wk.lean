/-! The world behind the constructors: where each cell lies (z: a zone, its row at z + 1; p: a plan, its rows behind it). Written by wip/whole/gen/mkwk.py. -/
abbrev yL_init : Nat := 0
abbrev yR_init : Nat := 1
abbrev yA_fill : Nat := 2
abbrev yZ_init : Nat := 3
abbrev yG_init : Nat := 4
abbrev yP_init : Nat := 5
abbrev yT_init : Nat := 6
abbrev yW_init : Nat := 7
abbrev yH_init : Nat := 8
abbrev yX_init : Nat := 9
abbrev yM_put : Nat := 10
abbrev yM_nought : Nat := 11
abbrev yM_get : Nat := 12
abbrev yM_stores : Nat := 13
abbrev yM_laysAll : Nat := 14
abbrev yM_init : Nat := 15
abbrev yR_putBytes : Nat := 16
abbrev yX_feed : Nat := 17
abbrev yM_four : Nat := 18
abbrev yM_feed : Nat := 19
abbrev yL_clear : Nat := 20
abbrev yR_readWord : Nat := 21
abbrev yR_readDigits : Nat := 22
abbrev yR_readSign : Nat := 23
abbrev yR_advance : Nat := 24
abbrev yR_fail : Nat := 25
abbrev yL_indexIn : Nat := 26
abbrev yL_clockNamed : Nat := 27
abbrev yR_readClock : Nat := 28
abbrev yR_endLine : Nat := 29
abbrev yL_placeNamed : Nat := 30
abbrev yX_stayRules : Nat := 31
abbrev yR_clockHere : Nat := 32
abbrev yR_numberHere : Nat := 33
abbrev yL_addRule : Nat := 34
abbrev yR_readWhens : Nat := 35
abbrev yR_readPlace : Nat := 36
abbrev yR_placeHere : Nat := 37
abbrev yX_edgeRules : Nat := 38
abbrev yL_numberSet : Nat := 39
abbrev yL_addSet : Nat := 40
abbrev yR_readSets : Nat := 41
abbrev yR_readEdge : Nat := 42
abbrev yR_readStart : Nat := 43
abbrev yR_readLine : Nat := 44
abbrev yR_readText : Nat := 45
abbrev yZ_layZero : Nat := 46
abbrev yH_forgetAll : Nat := 47
abbrev yX_beginAnew : Nat := 48
abbrev yX_lessThan : Nat := 49
abbrev yX_atMost : Nat := 50
abbrev yX_upperOf : Nat := 51
abbrev yZ_cell : Nat := 52
abbrev yX_sumOf : Nat := 53
abbrev yZ_put : Nat := 54
abbrev yZ_tighten : Nat := 55
abbrev yX_lowerOf : Nat := 56
abbrev yZ_keepRules : Nat := 57
abbrev yZ_goUp : Nat := 58
abbrev yZ_waitIn : Nat := 59
abbrev yZ_greatOf : Nat := 60
abbrev yX_numberOf : Nat := 61
abbrev yZ_roughBound : Nat := 62
abbrev yX_closeCells : Nat := 63
abbrev yZ_close : Nat := 64
abbrev yZ_roughen : Nat := 65
abbrev yZ_become : Nat := 66
abbrev yG_append : Nat := 67
abbrev yZ_assign : Nat := 68
abbrev yZ_applySets : Nat := 69
abbrev yZ_stepBy : Nat := 70
abbrev yZ_covers : Nat := 71
abbrev yG_isCovered : Nat := 72
abbrev yG_grow : Nat := 73
abbrev yG_build : Nat := 74
abbrev yX_text : Nat := 75
abbrev yM_isIn : Nat := 76
abbrev yM_see : Nat := 77
abbrev yM_advance : Nat := 78
abbrev yM_isWord : Nat := 79
abbrev yM_must : Nat := 80
abbrev yM_opens : Nat := 81
abbrev yM_isName : Nat := 82
abbrev yM_at : Nat := 83
abbrev yM_freshHere : Nat := 84
abbrev yM_seenHere : Nat := 85
abbrev yM_numberHere : Nat := 86
abbrev yM_whensHere : Nat := 87
abbrev yM_placeHere : Nat := 88
abbrev yM_setsHere : Nat := 89
abbrev yM_lineHere : Nat := 90
abbrev yM_copies : Nat := 91
abbrev yM_grows : Nat := 92
abbrev yM_greatens : Nat := 93
abbrev yM_reachedS : Nat := 94
abbrev yM_tightens : Nat := 95
abbrev yM_meets : Nat := 96
abbrev yM_plus : Nat := 97
abbrev yM_closes : Nat := 98
abbrev yM_whens : Nat := 99
abbrev yM_ups : Nat := 100
abbrev yM_stays : Nat := 101
abbrev yM_numberOf : Nat := 102
abbrev yM_roughens : Nat := 103
abbrev yM_adds : Nat := 104
abbrev yM_loadsNode : Nat := 105
abbrev yM_sets : Nat := 106
abbrev yM_steps : Nat := 107
abbrev yM_isInside : Nat := 108
abbrev yM_isKnown : Nat := 109
abbrev yM_explores : Nat := 110
abbrev yM_becomes : Nat := 111
abbrev yM_text : Nat := 112
abbrev yX_fault : Nat := 113
abbrev yM_fault : Nat := 114
abbrev yX_isPlace : Nat := 115
abbrev yL_edgesFrom : Nat := 116
abbrev yL_edgesTo : Nat := 117
abbrev yG_nodesOf : Nat := 118
abbrev yX_place : Nat := 119
abbrev yM_isPlace : Nat := 120
abbrev yM_firstNode : Nat := 121
abbrev yM_place : Nat := 122
abbrev yM_thrown : Nat := 123
abbrev yX_isEdge : Nat := 124
abbrev yG_hasNodeBy : Nat := 125
abbrev yX_edge : Nat := 126
abbrev yM_isEdge : Nat := 127
abbrev yM_edge : Nat := 128
abbrev yX_when : Nat := 129
abbrev yM_when : Nat := 130
abbrev yX_set : Nat := 131
abbrev yM_isTwo : Nat := 132
abbrev yM_set : Nat := 133
abbrev yX_isClock : Nat := 134
abbrev yX_great : Nat := 135
abbrev yM_isClock : Nat := 136
abbrev yM_great : Nat := 137
abbrev yX_isTable : Nat := 138
abbrev yZ_release : Nat := 139
abbrev yZ_layAll : Nat := 140
abbrev yZ_layNothing : Nat := 141
abbrev yZ_goesBeyond : Nat := 142
abbrev yH_goOn : Nat := 143
abbrev yH_keepTable : Nat := 144
abbrev yX_settle : Nat := 145
abbrev yX_lay : Nat := 146
abbrev yM_isTable : Nat := 147
abbrev yM_wide : Nat := 148
abbrev yM_isFar : Nat := 149
abbrev yM_keeps : Nat := 150
abbrev yM_becomesTable : Nat := 151
abbrev yM_lay : Nat := 152
abbrev yX_isPair : Nat := 153
abbrev yZ_relate : Nat := 154
abbrev yX_meet : Nat := 155
abbrev yM_arePair : Nat := 156
abbrev yM_loads : Nat := 157
abbrev yM_meet : Nat := 158
abbrev yZ_goDown : Nat := 159
abbrev yX_pass : Nat := 160
abbrev yM_downs : Nat := 161
abbrev yM_pass : Nat := 162
abbrev yX_reset : Nat := 163
abbrev yM_reset : Nat := 164
abbrev yX_free : Nat := 165
abbrev yM_frees : Nat := 166
abbrev yM_free : Nat := 167
abbrev yX_copy : Nat := 168
abbrev yM_copy : Nat := 169
abbrev yZ_widenTo : Nat := 170
abbrev yX_join : Nat := 171
abbrev yM_other : Nat := 172
abbrev yM_join : Nat := 173
abbrev yZ_narrowTo : Nat := 174
abbrev yX_both : Nat := 175
abbrev yM_meetsTable : Nat := 176
abbrev yM_both : Nat := 177
abbrev yX_step : Nat := 178
abbrev yM_step : Nat := 179
abbrev yX_stay : Nat := 180
abbrev yM_stay : Nat := 181
abbrev yX_rough : Nat := 182
abbrev yM_rough : Nat := 183
abbrev yX_isNode : Nat := 184
abbrev yX_take : Nat := 185
abbrev yM_take : Nat := 186
abbrev yH_dropLatest : Nat := 187
abbrev yH_restorePath : Nat := 188
abbrev yX_undo : Nat := 189
abbrev yM_undo : Nat := 190
abbrev yX_reachedOf : Nat := 191
abbrev yX_tellBound : Nat := 192
abbrev yX_boundOf : Nat := 193
abbrev yX_bound : Nat := 194
abbrev yM_told : Nat := 195
abbrev yM_bound : Nat := 196
abbrev yX_empty : Nat := 197
abbrev yM_empty : Nat := 198
abbrev yX_within : Nat := 199
abbrev yM_within : Nat := 200
abbrev yZ_holdsHalves : Nat := 201
abbrev yX_has : Nat := 202
abbrev yM_hasTimes : Nat := 203
abbrev yM_has : Nat := 204
abbrev yZ_followsFromOthers : Nat := 205
abbrev yZ_countsAsPair : Nat := 206
abbrev yX_pairs : Nat := 207
abbrev yM_follows : Nat := 208
abbrev yM_pairs : Nat := 209
abbrev yX_wholeBound : Nat := 210
abbrev yZ_keepWhole : Nat := 211
abbrev yX_pointsFrom0 : Nat := 212
abbrev yX_pointsFrom1 : Nat := 213
abbrev yX_pointsFrom2 : Nat := 214
abbrev yX_pointsFrom3 : Nat := 215
abbrev yX_pointsFrom4 : Nat := 216
abbrev yX_pointsFrom5 : Nat := 217
abbrev yX_whole : Nat := 218
abbrev yM_whole : Nat := 219
abbrev yZ_leastOf : Nat := 220
abbrev yX_first : Nat := 221
abbrev yM_wholes : Nat := 222
abbrev yM_first : Nat := 223
abbrev yX_nodes : Nat := 224
abbrev yM_nodes : Nat := 225
abbrev yX_node : Nat := 226
abbrev yM_depth : Nat := 227
abbrev yM_node : Nat := 228
abbrev yX_nodeBound : Nat := 229
abbrev yM_nodeBound : Nat := 230
abbrev yG_findWay : Nat := 231
abbrev yX_way : Nat := 232
abbrev yM_laysRoad : Nat := 233
abbrev yM_way : Nat := 234
abbrev yG_openEdges : Nat := 235
abbrev yX_open : Nat := 236
abbrev yM_openOf : Nat := 237
abbrev yM_open : Nat := 238
abbrev yX_stuck : Nat := 239
abbrev yM_stuck : Nat := 240
abbrev yX_reached : Nat := 241
abbrev yM_reached : Nat := 242
abbrev yP_endIn : Nat := 243
abbrev yH_keepPath : Nat := 244
abbrev yX_changePath : Nat := 245
abbrev yX_add : Nat := 246
abbrev yM_traced : Nat := 247
abbrev yM_add : Nat := 248
abbrev yX_lead : Nat := 249
abbrev yM_lead : Nat := 250
abbrev yX_trace : Nat := 251
abbrev yM_trace : Nat := 252
abbrev yT_lower : Nat := 253
abbrev yT_keepRules : Nat := 254
abbrev yT_takeEdge : Nat := 255
abbrev yT_build : Nat := 256
abbrev yX_timesOfPath : Nat := 257
abbrev yX_can : Nat := 258
abbrev yM_holds : Nat := 259
abbrev yM_holdsAt : Nat := 260
abbrev yM_laysTimes : Nat := 261
abbrev yM_laysTrace : Nat := 262
abbrev yM_can : Nat := 263
abbrev yT_span : Nat := 264
abbrev yX_window : Nat := 265
abbrev yM_spanOf : Nat := 266
abbrev yM_window : Nat := 267
abbrev yX_between : Nat := 268
abbrev yM_between : Nat := 269
abbrev yP_setterAhead : Nat := 270
abbrev yX_value : Nat := 271
abbrev yM_value : Nat := 272
abbrev yW_goAlong : Nat := 273
abbrev yW_breakIn : Nat := 274
abbrev yX_breaks : Nat := 275
abbrev yM_breaks : Nat := 276
abbrev yX_width : Nat := 277
abbrev yM_width : Nat := 278
abbrev yX_touch : Nat := 279
abbrev yM_touch : Nat := 280
abbrev yZ_stepBackBy : Nat := 281
abbrev yX_back : Nat := 282
abbrev yM_backs : Nat := 283
abbrev yM_back : Nat := 284
abbrev yZ_becomeTimed : Nat := 285
abbrev yX_longest : Nat := 286
abbrev yM_stretches : Nat := 287
abbrev yM_longest : Nat := 288
abbrev yX_soonest : Nat := 289
abbrev yM_low : Nat := 290
abbrev yM_soonest : Nat := 291
abbrev yL_placesBehind : Nat := 292
abbrev yX_leads : Nat := 293
abbrev yM_leads : Nat := 294
abbrev yX_fastest : Nat := 295
abbrev yM_fastest : Nat := 296
abbrev yT_buildWhole : Nat := 297
abbrev yT_leastWhole : Nat := 298
abbrev yX_moment : Nat := 299
abbrev yM_moment : Nat := 300
abbrev yX_deepest : Nat := 301
abbrev yM_deepest : Nat := 302
abbrev yL_hasRuleOf : Nat := 303
abbrev yL_listsWith : Nat := 304
abbrev yL_edgesThatSet : Nat := 305
abbrev yX_tells : Nat := 306
abbrev yM_hasWhen : Nat := 307
abbrev yM_hasSet : Nat := 308
abbrev yM_tells : Nat := 309
abbrev yX_single : Nat := 310
abbrev yM_single : Nat := 311
abbrev yX_count : Nat := 312
abbrev yM_count : Nat := 313
abbrev yY_law : Nat := 314
def wk_k : List (Nat × Nat) := [(111, 0), (104, 0), (8, 0), (4, 0), (101, 900), (3, 0), (100, 4), (100, 8), (100, 4), (100, 24), (100, 144), (100, 144), (100, 144), (100, 16), (100, 16), (100, 16), (100, 64), (100, 64), (3, 0), (100, 4), (100, 8), (100, 4), (100, 24), (100, 144), (100, 144), (100, 144), (100, 16), (100, 16), (100, 16), (100, 64), (100, 64), (102, 4), (7, 0), (100, 36), (7, 0), (100, 36), (100, 6), (0, 0), (102, 60), (100, 60), (100, 60), (100, 60), (100, 60), (100, 60), (100, 8), (100, 60), (7, 0), (100, 36), (7, 0), (100, 36), (7, 0), (100, 36), (7, 0), (100, 36), (7, 0), (100, 36), (7, 0), (100, 36), (7, 0), (100, 36), (7, 0), (100, 36), (7, 0), (100, 36), (7, 0), (100, 36), (7, 0), (100, 36), (7, 0), (100, 36), (7, 0), (100, 36), (7, 0), (100, 36), (7, 0), (100, 36), (7, 0), (100, 36), (7, 0), (100, 36), (7, 0), (100, 36), (7, 0), (100, 36), (7, 0), (100, 36), (7, 0), (100, 36), (7, 0), (100, 36), (7, 0), (100, 36), (7, 0), (100, 36), (7, 0), (100, 36), (7, 0), (100, 36), (7, 0), (100, 36), (7, 0), (100, 36), (7, 0), (100, 36), (7, 0), (100, 36), (7, 0), (100, 36), (7, 0), (100, 36), (7, 0), (100, 36), (7, 0), (100, 36), (7, 0), (100, 36), (7, 0), (100, 36), (7, 0), (100, 36), (7, 0), (100, 36), (7, 0), (100, 36), (7, 0), (100, 36), (7, 0), (100, 36), (7, 0), (100, 36), (7, 0), (100, 36), (7, 0), (100, 36), (7, 0), (100, 36), (7, 0), (100, 36), (7, 0), (100, 36), (7, 0), (100, 36), (7, 0), (100, 36), (7, 0), (100, 36), (7, 0), (100, 36), (7, 0), (100, 36), (7, 0), (100, 36), (7, 0), (100, 36), (7, 0), (100, 36), (7, 0), (100, 36), (7, 0), (100, 36), (7, 0), (100, 36), (7, 0), (100, 36), (7, 0), (100, 36), (7, 0), (100, 36), (2, 0), (100, 20), (5, 0), (100, 441), (100, 441), (100, 4), (100, 4), (6, 0), (7, 0), (100, 36), (1, 0), (100, 16), (102, 16), (100, 320), (100, 16), (7, 0), (100, 36), (7, 0), (100, 36), (7, 0), (100, 36), (7, 0), (100, 36), (7, 0), (100, 36), (7, 0), (100, 36), (7, 0), (100, 36), (7, 0), (100, 36), (7, 0), (100, 36), (7, 0), (100, 36), (7, 0), (100, 36), (7, 0), (100, 36), (7, 0), (100, 36), (7, 0), (100, 36), (7, 0), (100, 36), (7, 0), (100, 36), (7, 0), (100, 36), (7, 0), (100, 36), (7, 0), (100, 36), (7, 0), (100, 36), (9, 0), (100, 24), (100, 144), (100, 144), (100, 144), (100, 16), (100, 16), (100, 16), (100, 64), (100, 64), (100, 5), (100, 125), (100, 2000), (100, 60), (100, 60), (100, 60), (100, 1500), (101, 900), (100, 4), (100, 8), (100, 24), (100, 144), (100, 144), (100, 144), (100, 16), (100, 16), (100, 16), (100, 64), (100, 64), (100, 3844), (100, 5), (100, 60), (100, 4), (100, 4), (100, 240), (100, 240), (103, 1)]
def wk_r : List (Nat × List Nat) := [(2, [3, 18, 31, 32, 34, 36, 37, 168, 170, 175, 178]), (3, [4, 0, 5, 0, 0, 0, 0, 0, 0, 0]), (5, [0, 0, 0, 0, 0, 0, 6, 7, 8, 9, 10, 11, 12, 13, 14, 15, 16, 17]), (18, [0, 0, 0, 0, 0, 0, 19, 20, 21, 22, 23, 24, 25, 26, 27, 28, 29, 30]), (31, [215, 217, 219, 221]), (32, [33, 0, 0]), (34, [35, 0, 0]), (37, [38, 39, 40, 41, 42, 43, 44, 45, 46, 0]), (38, [48, 50, 52, 54, 56, 58, 60, 62, 64, 66, 68, 70, 72, 74, 76, 78, 80, 82, 84, 86, 88, 90, 92, 94, 96, 98, 100, 102, 104, 106, 108, 110, 112, 114, 116, 118, 120, 122, 124, 126, 128, 130, 132, 134, 136, 138, 140, 142, 144, 146, 148, 150, 152, 154, 156, 158, 160, 162, 164, 166]), (46, [47, 0, 0]), (48, [49, 0, 0]), (50, [51, 0, 0]), (52, [53, 0, 0]), (54, [55, 0, 0]), (56, [57, 0, 0]), (58, [59, 0, 0]), (60, [61, 0, 0]), (62, [63, 0, 0]), (64, [65, 0, 0]), (66, [67, 0, 0]), (68, [69, 0, 0]), (70, [71, 0, 0]), (72, [73, 0, 0]), (74, [75, 0, 0]), (76, [77, 0, 0]), (78, [79, 0, 0]), (80, [81, 0, 0]), (82, [83, 0, 0]), (84, [85, 0, 0]), (86, [87, 0, 0]), (88, [89, 0, 0]), (90, [91, 0, 0]), (92, [93, 0, 0]), (94, [95, 0, 0]), (96, [97, 0, 0]), (98, [99, 0, 0]), (100, [101, 0, 0]), (102, [103, 0, 0]), (104, [105, 0, 0]), (106, [107, 0, 0]), (108, [109, 0, 0]), (110, [111, 0, 0]), (112, [113, 0, 0]), (114, [115, 0, 0]), (116, [117, 0, 0]), (118, [119, 0, 0]), (120, [121, 0, 0]), (122, [123, 0, 0]), (124, [125, 0, 0]), (126, [127, 0, 0]), (128, [129, 0, 0]), (130, [131, 0, 0]), (132, [133, 0, 0]), (134, [135, 0, 0]), (136, [137, 0, 0]), (138, [139, 0, 0]), (140, [141, 0, 0]), (142, [143, 0, 0]), (144, [145, 0, 0]), (146, [147, 0, 0]), (148, [149, 0, 0]), (150, [151, 0, 0]), (152, [153, 0, 0]), (154, [155, 0, 0]), (156, [157, 0, 0]), (158, [159, 0, 0]), (160, [161, 0, 0]), (162, [163, 0, 0]), (164, [165, 0, 0]), (166, [167, 0, 0]), (168, [169, 0]), (170, [171, 172, 173, 174, 0, 0, 0, 0]), (175, [176]), (176, [177, 0, 0]), (178, [179, 180, 181, 182, 0, 0]), (180, [183, 185, 187, 189, 191, 193, 195, 197, 199, 201, 203, 205, 207, 209, 211, 213]), (183, [184, 0, 0]), (185, [186, 0, 0]), (187, [188, 0, 0]), (189, [190, 0, 0]), (191, [192, 0, 0]), (193, [194, 0, 0]), (195, [196, 0, 0]), (197, [198, 0, 0]), (199, [200, 0, 0]), (201, [202, 0, 0]), (203, [204, 0, 0]), (205, [206, 0, 0]), (207, [208, 0, 0]), (209, [210, 0, 0]), (211, [212, 0, 0]), (213, [214, 0, 0]), (215, [216, 0, 0]), (217, [218, 0, 0]), (219, [220, 0, 0]), (221, [222, 0, 0]), (223, [0, 0, 0, 0, 0, 0, 224, 225, 226, 227, 228, 229, 230, 231, 232, 233, 234, 235, 0, 236, 237, 238, 239, 0, 240, 0, 0, 0, 0, 0, 0, 0, 0, 0, 241, 242, 0, 0, 0, 0, 0, 0, 243, 244, 245, 246, 247, 248, 249, 250, 251, 252, 0, 0, 253, 254, 0, 255, 256, 257, 258])]
def pl (sw : Bool) : Nat := if sw then 5 else 18
def fr (sw : Bool) : Nat := if sw then 18 else 5
def wk_ref (sw : Bool) (a k : Nat) : Nat := if a = 2 ∧ k = 1 then pl sw else if a = 3 ∧ k = 2 then fr sw else ((mj_look wk_r a).getD []).getD k 0
/-- the cells are as the constructors made them (sw: the plans have changed places) -/
def wk (sw : Bool) (w : mj_W) : Prop := (∀ a, 2 ≤ a → a < 260 → w.1 a = wk_k.getD a (0, 0)) ∧ (∀ a k, 2 ≤ a → a < 260 → w.2.1 a k = wk_ref sw a k) ∧ 260 ≤ w.2.2.1
section WK
variable {sw : Bool} {w : mj_W}
theorem k_2 (hw : wk sw w) : w.1 2 = (8, 0) := hw.1 2 (by decide) (by decide)
theorem r_2_0 (hw : wk sw w) : w.2.1 2 0 = 3 := hw.2.1 2 0 (by decide) (by decide)
theorem r_2_1 (hw : wk sw w) : w.2.1 2 1 = pl sw := hw.2.1 2 1 (by decide) (by decide)
theorem r_2_2 (hw : wk sw w) : w.2.1 2 2 = 31 := hw.2.1 2 2 (by decide) (by decide)
theorem r_2_3 (hw : wk sw w) : w.2.1 2 3 = 32 := hw.2.1 2 3 (by decide) (by decide)
theorem r_2_4 (hw : wk sw w) : w.2.1 2 4 = 34 := hw.2.1 2 4 (by decide) (by decide)
theorem r_2_5 (hw : wk sw w) : w.2.1 2 5 = 36 := hw.2.1 2 5 (by decide) (by decide)
theorem r_2_6 (hw : wk sw w) : w.2.1 2 6 = 37 := hw.2.1 2 6 (by decide) (by decide)
theorem r_2_7 (hw : wk sw w) : w.2.1 2 7 = 168 := hw.2.1 2 7 (by decide) (by decide)
theorem r_2_8 (hw : wk sw w) : w.2.1 2 8 = 170 := hw.2.1 2 8 (by decide) (by decide)
theorem r_2_9 (hw : wk sw w) : w.2.1 2 9 = 175 := hw.2.1 2 9 (by decide) (by decide)
theorem r_2_10 (hw : wk sw w) : w.2.1 2 10 = 178 := hw.2.1 2 10 (by decide) (by decide)
theorem k_3 (hw : wk sw w) : w.1 3 = (4, 0) := hw.1 3 (by decide) (by decide)
theorem r_3_0 (hw : wk sw w) : w.2.1 3 0 = 4 := hw.2.1 3 0 (by decide) (by decide)
theorem r_3_2 (hw : wk sw w) : w.2.1 3 2 = fr sw := hw.2.1 3 2 (by decide) (by decide)
theorem k_4 (hw : wk sw w) : w.1 4 = (101, 900) := hw.1 4 (by decide) (by decide)
theorem k_31 (hw : wk sw w) : w.1 31 = (102, 4) := hw.1 31 (by decide) (by decide)
theorem k_36 (hw : wk sw w) : w.1 36 = (100, 6) := hw.1 36 (by decide) (by decide)
theorem k_37 (hw : wk sw w) : w.1 37 = (0, 0) := hw.1 37 (by decide) (by decide)
theorem r_37_0 (hw : wk sw w) : w.2.1 37 0 = 38 := hw.2.1 37 0 (by decide) (by decide)
theorem r_37_1 (hw : wk sw w) : w.2.1 37 1 = 39 := hw.2.1 37 1 (by decide) (by decide)
theorem r_37_2 (hw : wk sw w) : w.2.1 37 2 = 40 := hw.2.1 37 2 (by decide) (by decide)
theorem r_37_3 (hw : wk sw w) : w.2.1 37 3 = 41 := hw.2.1 37 3 (by decide) (by decide)
theorem r_37_4 (hw : wk sw w) : w.2.1 37 4 = 42 := hw.2.1 37 4 (by decide) (by decide)
theorem r_37_5 (hw : wk sw w) : w.2.1 37 5 = 43 := hw.2.1 37 5 (by decide) (by decide)
theorem r_37_6 (hw : wk sw w) : w.2.1 37 6 = 44 := hw.2.1 37 6 (by decide) (by decide)
theorem r_37_7 (hw : wk sw w) : w.2.1 37 7 = 45 := hw.2.1 37 7 (by decide) (by decide)
theorem r_37_8 (hw : wk sw w) : w.2.1 37 8 = 46 := hw.2.1 37 8 (by decide) (by decide)
theorem k_38 (hw : wk sw w) : w.1 38 = (102, 60) := hw.1 38 (by decide) (by decide)
theorem k_39 (hw : wk sw w) : w.1 39 = (100, 60) := hw.1 39 (by decide) (by decide)
theorem k_40 (hw : wk sw w) : w.1 40 = (100, 60) := hw.1 40 (by decide) (by decide)
theorem k_41 (hw : wk sw w) : w.1 41 = (100, 60) := hw.1 41 (by decide) (by decide)
theorem k_42 (hw : wk sw w) : w.1 42 = (100, 60) := hw.1 42 (by decide) (by decide)
theorem k_43 (hw : wk sw w) : w.1 43 = (100, 60) := hw.1 43 (by decide) (by decide)
theorem k_44 (hw : wk sw w) : w.1 44 = (100, 8) := hw.1 44 (by decide) (by decide)
theorem k_45 (hw : wk sw w) : w.1 45 = (100, 60) := hw.1 45 (by decide) (by decide)
theorem k_168 (hw : wk sw w) : w.1 168 = (2, 0) := hw.1 168 (by decide) (by decide)
theorem r_168_0 (hw : wk sw w) : w.2.1 168 0 = 169 := hw.2.1 168 0 (by decide) (by decide)
theorem k_169 (hw : wk sw w) : w.1 169 = (100, 20) := hw.1 169 (by decide) (by decide)
theorem k_170 (hw : wk sw w) : w.1 170 = (5, 0) := hw.1 170 (by decide) (by decide)
theorem r_170_0 (hw : wk sw w) : w.2.1 170 0 = 171 := hw.2.1 170 0 (by decide) (by decide)
theorem r_170_1 (hw : wk sw w) : w.2.1 170 1 = 172 := hw.2.1 170 1 (by decide) (by decide)
theorem r_170_2 (hw : wk sw w) : w.2.1 170 2 = 173 := hw.2.1 170 2 (by decide) (by decide)
theorem r_170_3 (hw : wk sw w) : w.2.1 170 3 = 174 := hw.2.1 170 3 (by decide) (by decide)
theorem k_171 (hw : wk sw w) : w.1 171 = (100, 441) := hw.1 171 (by decide) (by decide)
theorem k_172 (hw : wk sw w) : w.1 172 = (100, 441) := hw.1 172 (by decide) (by decide)
theorem k_173 (hw : wk sw w) : w.1 173 = (100, 4) := hw.1 173 (by decide) (by decide)
theorem k_174 (hw : wk sw w) : w.1 174 = (100, 4) := hw.1 174 (by decide) (by decide)
theorem k_175 (hw : wk sw w) : w.1 175 = (6, 0) := hw.1 175 (by decide) (by decide)
theorem r_175_0 (hw : wk sw w) : w.2.1 175 0 = 176 := hw.2.1 175 0 (by decide) (by decide)
theorem k_178 (hw : wk sw w) : w.1 178 = (1, 0) := hw.1 178 (by decide) (by decide)
theorem r_178_0 (hw : wk sw w) : w.2.1 178 0 = 179 := hw.2.1 178 0 (by decide) (by decide)
theorem r_178_1 (hw : wk sw w) : w.2.1 178 1 = 180 := hw.2.1 178 1 (by decide) (by decide)
theorem r_178_2 (hw : wk sw w) : w.2.1 178 2 = 181 := hw.2.1 178 2 (by decide) (by decide)
theorem r_178_3 (hw : wk sw w) : w.2.1 178 3 = 182 := hw.2.1 178 3 (by decide) (by decide)
theorem k_179 (hw : wk sw w) : w.1 179 = (100, 16) := hw.1 179 (by decide) (by decide)
theorem k_180 (hw : wk sw w) : w.1 180 = (102, 16) := hw.1 180 (by decide) (by decide)
theorem k_181 (hw : wk sw w) : w.1 181 = (100, 320) := hw.1 181 (by decide) (by decide)
theorem k_182 (hw : wk sw w) : w.1 182 = (100, 16) := hw.1 182 (by decide) (by decide)
theorem k_223 (hw : wk sw w) : w.1 223 = (9, 0) := hw.1 223 (by decide) (by decide)
theorem r_223_6 (hw : wk sw w) : w.2.1 223 6 = 224 := hw.2.1 223 6 (by decide) (by decide)
theorem r_223_7 (hw : wk sw w) : w.2.1 223 7 = 225 := hw.2.1 223 7 (by decide) (by decide)
theorem r_223_8 (hw : wk sw w) : w.2.1 223 8 = 226 := hw.2.1 223 8 (by decide) (by decide)
theorem r_223_9 (hw : wk sw w) : w.2.1 223 9 = 227 := hw.2.1 223 9 (by decide) (by decide)
theorem r_223_10 (hw : wk sw w) : w.2.1 223 10 = 228 := hw.2.1 223 10 (by decide) (by decide)
theorem r_223_11 (hw : wk sw w) : w.2.1 223 11 = 229 := hw.2.1 223 11 (by decide) (by decide)
theorem r_223_12 (hw : wk sw w) : w.2.1 223 12 = 230 := hw.2.1 223 12 (by decide) (by decide)
theorem r_223_13 (hw : wk sw w) : w.2.1 223 13 = 231 := hw.2.1 223 13 (by decide) (by decide)
theorem r_223_14 (hw : wk sw w) : w.2.1 223 14 = 232 := hw.2.1 223 14 (by decide) (by decide)
theorem r_223_15 (hw : wk sw w) : w.2.1 223 15 = 233 := hw.2.1 223 15 (by decide) (by decide)
theorem r_223_16 (hw : wk sw w) : w.2.1 223 16 = 234 := hw.2.1 223 16 (by decide) (by decide)
theorem r_223_17 (hw : wk sw w) : w.2.1 223 17 = 235 := hw.2.1 223 17 (by decide) (by decide)
theorem r_223_19 (hw : wk sw w) : w.2.1 223 19 = 236 := hw.2.1 223 19 (by decide) (by decide)
theorem r_223_20 (hw : wk sw w) : w.2.1 223 20 = 237 := hw.2.1 223 20 (by decide) (by decide)
theorem r_223_21 (hw : wk sw w) : w.2.1 223 21 = 238 := hw.2.1 223 21 (by decide) (by decide)
theorem r_223_22 (hw : wk sw w) : w.2.1 223 22 = 239 := hw.2.1 223 22 (by decide) (by decide)
theorem r_223_24 (hw : wk sw w) : w.2.1 223 24 = 240 := hw.2.1 223 24 (by decide) (by decide)
theorem r_223_34 (hw : wk sw w) : w.2.1 223 34 = 241 := hw.2.1 223 34 (by decide) (by decide)
theorem r_223_35 (hw : wk sw w) : w.2.1 223 35 = 242 := hw.2.1 223 35 (by decide) (by decide)
theorem r_223_42 (hw : wk sw w) : w.2.1 223 42 = 243 := hw.2.1 223 42 (by decide) (by decide)
theorem r_223_43 (hw : wk sw w) : w.2.1 223 43 = 244 := hw.2.1 223 43 (by decide) (by decide)
theorem r_223_44 (hw : wk sw w) : w.2.1 223 44 = 245 := hw.2.1 223 44 (by decide) (by decide)
theorem r_223_45 (hw : wk sw w) : w.2.1 223 45 = 246 := hw.2.1 223 45 (by decide) (by decide)
theorem r_223_46 (hw : wk sw w) : w.2.1 223 46 = 247 := hw.2.1 223 46 (by decide) (by decide)
theorem r_223_47 (hw : wk sw w) : w.2.1 223 47 = 248 := hw.2.1 223 47 (by decide) (by decide)
theorem r_223_48 (hw : wk sw w) : w.2.1 223 48 = 249 := hw.2.1 223 48 (by decide) (by decide)
theorem r_223_49 (hw : wk sw w) : w.2.1 223 49 = 250 := hw.2.1 223 49 (by decide) (by decide)
theorem r_223_50 (hw : wk sw w) : w.2.1 223 50 = 251 := hw.2.1 223 50 (by decide) (by decide)
theorem r_223_51 (hw : wk sw w) : w.2.1 223 51 = 252 := hw.2.1 223 51 (by decide) (by decide)
theorem r_223_54 (hw : wk sw w) : w.2.1 223 54 = 253 := hw.2.1 223 54 (by decide) (by decide)
theorem r_223_55 (hw : wk sw w) : w.2.1 223 55 = 254 := hw.2.1 223 55 (by decide) (by decide)
theorem r_223_57 (hw : wk sw w) : w.2.1 223 57 = 255 := hw.2.1 223 57 (by decide) (by decide)
theorem r_223_58 (hw : wk sw w) : w.2.1 223 58 = 256 := hw.2.1 223 58 (by decide) (by decide)
theorem r_223_59 (hw : wk sw w) : w.2.1 223 59 = 257 := hw.2.1 223 59 (by decide) (by decide)
theorem r_223_60 (hw : wk sw w) : w.2.1 223 60 = 258 := hw.2.1 223 60 (by decide) (by decide)
theorem k_224 (hw : wk sw w) : w.1 224 = (100, 24) := hw.1 224 (by decide) (by decide)
theorem k_225 (hw : wk sw w) : w.1 225 = (100, 144) := hw.1 225 (by decide) (by decide)
theorem k_226 (hw : wk sw w) : w.1 226 = (100, 144) := hw.1 226 (by decide) (by decide)
theorem k_227 (hw : wk sw w) : w.1 227 = (100, 144) := hw.1 227 (by decide) (by decide)
theorem k_228 (hw : wk sw w) : w.1 228 = (100, 16) := hw.1 228 (by decide) (by decide)
theorem k_229 (hw : wk sw w) : w.1 229 = (100, 16) := hw.1 229 (by decide) (by decide)
theorem k_230 (hw : wk sw w) : w.1 230 = (100, 16) := hw.1 230 (by decide) (by decide)
theorem k_231 (hw : wk sw w) : w.1 231 = (100, 64) := hw.1 231 (by decide) (by decide)
theorem k_232 (hw : wk sw w) : w.1 232 = (100, 64) := hw.1 232 (by decide) (by decide)
theorem k_233 (hw : wk sw w) : w.1 233 = (100, 5) := hw.1 233 (by decide) (by decide)
theorem k_234 (hw : wk sw w) : w.1 234 = (100, 125) := hw.1 234 (by decide) (by decide)
theorem k_235 (hw : wk sw w) : w.1 235 = (100, 2000) := hw.1 235 (by decide) (by decide)
theorem k_236 (hw : wk sw w) : w.1 236 = (100, 60) := hw.1 236 (by decide) (by decide)
theorem k_237 (hw : wk sw w) : w.1 237 = (100, 60) := hw.1 237 (by decide) (by decide)
theorem k_238 (hw : wk sw w) : w.1 238 = (100, 60) := hw.1 238 (by decide) (by decide)
theorem k_239 (hw : wk sw w) : w.1 239 = (100, 1500) := hw.1 239 (by decide) (by decide)
theorem k_240 (hw : wk sw w) : w.1 240 = (101, 900) := hw.1 240 (by decide) (by decide)
theorem k_241 (hw : wk sw w) : w.1 241 = (100, 4) := hw.1 241 (by decide) (by decide)
theorem k_242 (hw : wk sw w) : w.1 242 = (100, 8) := hw.1 242 (by decide) (by decide)
theorem k_243 (hw : wk sw w) : w.1 243 = (100, 24) := hw.1 243 (by decide) (by decide)
theorem k_244 (hw : wk sw w) : w.1 244 = (100, 144) := hw.1 244 (by decide) (by decide)
theorem k_245 (hw : wk sw w) : w.1 245 = (100, 144) := hw.1 245 (by decide) (by decide)
theorem k_246 (hw : wk sw w) : w.1 246 = (100, 144) := hw.1 246 (by decide) (by decide)
theorem k_247 (hw : wk sw w) : w.1 247 = (100, 16) := hw.1 247 (by decide) (by decide)
theorem k_248 (hw : wk sw w) : w.1 248 = (100, 16) := hw.1 248 (by decide) (by decide)
theorem k_249 (hw : wk sw w) : w.1 249 = (100, 16) := hw.1 249 (by decide) (by decide)
theorem k_250 (hw : wk sw w) : w.1 250 = (100, 64) := hw.1 250 (by decide) (by decide)
theorem k_251 (hw : wk sw w) : w.1 251 = (100, 64) := hw.1 251 (by decide) (by decide)
theorem k_252 (hw : wk sw w) : w.1 252 = (100, 3844) := hw.1 252 (by decide) (by decide)
theorem k_253 (hw : wk sw w) : w.1 253 = (100, 5) := hw.1 253 (by decide) (by decide)
theorem k_254 (hw : wk sw w) : w.1 254 = (100, 60) := hw.1 254 (by decide) (by decide)
theorem k_255 (hw : wk sw w) : w.1 255 = (100, 4) := hw.1 255 (by decide) (by decide)
theorem k_256 (hw : wk sw w) : w.1 256 = (100, 4) := hw.1 256 (by decide) (by decide)
theorem k_257 (hw : wk sw w) : w.1 257 = (100, 240) := hw.1 257 (by decide) (by decide)
theorem k_258 (hw : wk sw w) : w.1 258 = (100, 240) := hw.1 258 (by decide) (by decide)
theorem k_259 (hw : wk sw w) : w.1 259 = (103, 1) := hw.1 259 (by decide) (by decide)
def zn (a : Nat) : Bool := decide (a = 32) || decide (a = 34) || decide (a = 46) || decide (a = 176) || (decide (48 ≤ a) && decide (a < 168) && decide (a % 2 = 0)) || (decide (183 ≤ a) && decide (a < 223) && decide (a % 2 = 1))
theorem zn_lt {a : Nat} (h : zn a = true) : 32 ≤ a ∧ a + 1 < 260 := by
  simp only [zn, Bool.or_eq_true, Bool.and_eq_true, decide_eq_true_eq] at h
  omega
theorem zn_all : ((List.range 260).all fun a => !zn a || (decide (wk_k.getD a (0, 0) = (7, 0)) && decide (wk_k.getD (a + 1) (0, 0) = (100, 36)) && decide (wk_ref true a 0 = a + 1) && decide (wk_ref false a 0 = a + 1))) = true := by decide +kernel
theorem zn_at {a : Nat} (h : zn a = true) : (wk_k.getD a (0, 0) = (7, 0) ∧ wk_k.getD (a + 1) (0, 0) = (100, 36)) ∧ wk_ref sw a 0 = a + 1 := by
  have h1 := zn_lt h
  have h2 := List.all_eq_true.mp zn_all a (List.mem_range.mpr (by omega))
  simp only [h, Bool.not_true, Bool.false_or, Bool.and_eq_true, decide_eq_true_eq] at h2
  cases sw
  · exact ⟨h2.1.1, h2.2⟩
  · exact ⟨h2.1.1, h2.1.2⟩
theorem zn_k {a : Nat} (h : zn a = true) (hw : wk sw w) : w.1 a = (7, 0) := (hw.1 a (by have := zn_lt h; omega) (by have := zn_lt h; omega)).trans (zn_at (sw := sw) h).1.1
theorem zn_c {a : Nat} (h : zn a = true) (hw : wk sw w) : w.1 (a + 1) = (100, 36) := (hw.1 (a + 1) (by have := zn_lt h; omega) (by have := zn_lt h; omega)).trans (zn_at (sw := sw) h).1.2
theorem zn_r {a : Nat} (h : zn a = true) (hw : wk sw w) : w.2.1 a 0 = a + 1 := (hw.2.1 a 0 (by have := zn_lt h; omega) (by have := zn_lt h; omega)).trans (zn_at h).2
theorem nz1 (a : Nat) : ¬ a + 1 = 0 := by omega
def pn (p : Nat) : Prop := p = 5 ∨ p = 18
theorem pl_pn (sw : Bool) : pn (pl sw) := by unfold pn; cases sw <;> decide
theorem fr_pn (sw : Bool) : pn (fr sw) := by unfold pn; cases sw <;> decide
theorem pn_0 {p : Nat} (h : pn p) : ¬ p = 0 := by rcases h with rfl | rfl <;> decide
theorem pn_k {p : Nat} (h : pn p) (hw : wk sw w) : w.1 p = (3, 0) := by
  rcases h with rfl | rfl
  · exact hw.1 5 (by decide) (by decide)
  · exact hw.1 18 (by decide) (by decide)
theorem pn_r6 {p : Nat} (h : pn p) (hw : wk sw w) : w.2.1 p 6 = p + 1 := by
  rcases h with rfl | rfl
  · exact hw.2.1 5 6 (by decide) (by decide)
  · exact hw.2.1 18 6 (by decide) (by decide)
theorem pn_k6 {p : Nat} (h : pn p) (hw : wk sw w) : w.1 (p + 1) = (100, 4) := by
  rcases h with rfl | rfl
  · exact hw.1 (5 + 1) (by decide) (by decide)
  · exact hw.1 (18 + 1) (by decide) (by decide)
theorem pn_r7 {p : Nat} (h : pn p) (hw : wk sw w) : w.2.1 p 7 = p + 2 := by
  rcases h with rfl | rfl
  · exact hw.2.1 5 7 (by decide) (by decide)
  · exact hw.2.1 18 7 (by decide) (by decide)
theorem pn_k7 {p : Nat} (h : pn p) (hw : wk sw w) : w.1 (p + 2) = (100, 8) := by
  rcases h with rfl | rfl
  · exact hw.1 (5 + 2) (by decide) (by decide)
  · exact hw.1 (18 + 2) (by decide) (by decide)
theorem pn_r8 {p : Nat} (h : pn p) (hw : wk sw w) : w.2.1 p 8 = p + 3 := by
  rcases h with rfl | rfl
  · exact hw.2.1 5 8 (by decide) (by decide)
  · exact hw.2.1 18 8 (by decide) (by decide)
theorem pn_k8 {p : Nat} (h : pn p) (hw : wk sw w) : w.1 (p + 3) = (100, 4) := by
  rcases h with rfl | rfl
  · exact hw.1 (5 + 3) (by decide) (by decide)
  · exact hw.1 (18 + 3) (by decide) (by decide)
theorem pn_r9 {p : Nat} (h : pn p) (hw : wk sw w) : w.2.1 p 9 = p + 4 := by
  rcases h with rfl | rfl
  · exact hw.2.1 5 9 (by decide) (by decide)
  · exact hw.2.1 18 9 (by decide) (by decide)
theorem pn_k9 {p : Nat} (h : pn p) (hw : wk sw w) : w.1 (p + 4) = (100, 24) := by
  rcases h with rfl | rfl
  · exact hw.1 (5 + 4) (by decide) (by decide)
  · exact hw.1 (18 + 4) (by decide) (by decide)
theorem pn_r10 {p : Nat} (h : pn p) (hw : wk sw w) : w.2.1 p 10 = p + 5 := by
  rcases h with rfl | rfl
  · exact hw.2.1 5 10 (by decide) (by decide)
  · exact hw.2.1 18 10 (by decide) (by decide)
theorem pn_k10 {p : Nat} (h : pn p) (hw : wk sw w) : w.1 (p + 5) = (100, 144) := by
  rcases h with rfl | rfl
  · exact hw.1 (5 + 5) (by decide) (by decide)
  · exact hw.1 (18 + 5) (by decide) (by decide)
theorem pn_r11 {p : Nat} (h : pn p) (hw : wk sw w) : w.2.1 p 11 = p + 6 := by
  rcases h with rfl | rfl
  · exact hw.2.1 5 11 (by decide) (by decide)
  · exact hw.2.1 18 11 (by decide) (by decide)
theorem pn_k11 {p : Nat} (h : pn p) (hw : wk sw w) : w.1 (p + 6) = (100, 144) := by
  rcases h with rfl | rfl
  · exact hw.1 (5 + 6) (by decide) (by decide)
  · exact hw.1 (18 + 6) (by decide) (by decide)
theorem pn_r12 {p : Nat} (h : pn p) (hw : wk sw w) : w.2.1 p 12 = p + 7 := by
  rcases h with rfl | rfl
  · exact hw.2.1 5 12 (by decide) (by decide)
  · exact hw.2.1 18 12 (by decide) (by decide)
theorem pn_k12 {p : Nat} (h : pn p) (hw : wk sw w) : w.1 (p + 7) = (100, 144) := by
  rcases h with rfl | rfl
  · exact hw.1 (5 + 7) (by decide) (by decide)
  · exact hw.1 (18 + 7) (by decide) (by decide)
theorem pn_r13 {p : Nat} (h : pn p) (hw : wk sw w) : w.2.1 p 13 = p + 8 := by
  rcases h with rfl | rfl
  · exact hw.2.1 5 13 (by decide) (by decide)
  · exact hw.2.1 18 13 (by decide) (by decide)
theorem pn_k13 {p : Nat} (h : pn p) (hw : wk sw w) : w.1 (p + 8) = (100, 16) := by
  rcases h with rfl | rfl
  · exact hw.1 (5 + 8) (by decide) (by decide)
  · exact hw.1 (18 + 8) (by decide) (by decide)
theorem pn_r14 {p : Nat} (h : pn p) (hw : wk sw w) : w.2.1 p 14 = p + 9 := by
  rcases h with rfl | rfl
  · exact hw.2.1 5 14 (by decide) (by decide)
  · exact hw.2.1 18 14 (by decide) (by decide)
theorem pn_k14 {p : Nat} (h : pn p) (hw : wk sw w) : w.1 (p + 9) = (100, 16) := by
  rcases h with rfl | rfl
  · exact hw.1 (5 + 9) (by decide) (by decide)
  · exact hw.1 (18 + 9) (by decide) (by decide)
theorem pn_r15 {p : Nat} (h : pn p) (hw : wk sw w) : w.2.1 p 15 = p + 10 := by
  rcases h with rfl | rfl
  · exact hw.2.1 5 15 (by decide) (by decide)
  · exact hw.2.1 18 15 (by decide) (by decide)
theorem pn_k15 {p : Nat} (h : pn p) (hw : wk sw w) : w.1 (p + 10) = (100, 16) := by
  rcases h with rfl | rfl
  · exact hw.1 (5 + 10) (by decide) (by decide)
  · exact hw.1 (18 + 10) (by decide) (by decide)
theorem pn_r16 {p : Nat} (h : pn p) (hw : wk sw w) : w.2.1 p 16 = p + 11 := by
  rcases h with rfl | rfl
  · exact hw.2.1 5 16 (by decide) (by decide)
  · exact hw.2.1 18 16 (by decide) (by decide)
theorem pn_k16 {p : Nat} (h : pn p) (hw : wk sw w) : w.1 (p + 11) = (100, 64) := by
  rcases h with rfl | rfl
  · exact hw.1 (5 + 11) (by decide) (by decide)
  · exact hw.1 (18 + 11) (by decide) (by decide)
theorem pn_r17 {p : Nat} (h : pn p) (hw : wk sw w) : w.2.1 p 17 = p + 12 := by
  rcases h with rfl | rfl
  · exact hw.2.1 5 17 (by decide) (by decide)
  · exact hw.2.1 18 17 (by decide) (by decide)
theorem pn_k17 {p : Nat} (h : pn p) (hw : wk sw w) : w.1 (p + 12) = (100, 64) := by
  rcases h with rfl | rfl
  · exact hw.1 (5 + 12) (by decide) (by decide)
  · exact hw.1 (18 + 12) (by decide) (by decide)
theorem rz31_all : ((List.range 4).all fun i => decide (wk_ref true 31 i = 215 + 2 * i) && decide (wk_ref false 31 i = 215 + 2 * i) && zn (215 + 2 * i)) = true := by decide +kernel
theorem rz31 {j : Int} (hw : wk sw w) (h : 0 ≤ j ∧ j < ((4 : Nat) : Int)) : w.2.1 31 j.toNat = 215 + 2 * j.toNat ∧ 215 + 2 * j.toNat ≠ 0 := by
  have h2 := List.all_eq_true.mp rz31_all j.toNat (List.mem_range.mpr (by omega))
  simp only [Bool.and_eq_true, decide_eq_true_eq] at h2
  refine ⟨(hw.2.1 31 j.toNat (by decide) (by decide)).trans ?_, by omega⟩
  cases sw
  · exact h2.1.2
  · exact h2.1.1
theorem zz31 {j : Int} (h : 0 ≤ j ∧ j < ((4 : Nat) : Int)) : zn (215 + 2 * j.toNat) = true := by
  have h2 := List.all_eq_true.mp rz31_all j.toNat (List.mem_range.mpr (by omega))
  simp only [Bool.and_eq_true, decide_eq_true_eq] at h2
  exact h2.2
theorem rz38_all : ((List.range 60).all fun i => decide (wk_ref true 38 i = 48 + 2 * i) && decide (wk_ref false 38 i = 48 + 2 * i) && zn (48 + 2 * i)) = true := by decide +kernel
theorem rz38 {j : Int} (hw : wk sw w) (h : 0 ≤ j ∧ j < ((60 : Nat) : Int)) : w.2.1 38 j.toNat = 48 + 2 * j.toNat ∧ 48 + 2 * j.toNat ≠ 0 := by
  have h2 := List.all_eq_true.mp rz38_all j.toNat (List.mem_range.mpr (by omega))
  simp only [Bool.and_eq_true, decide_eq_true_eq] at h2
  refine ⟨(hw.2.1 38 j.toNat (by decide) (by decide)).trans ?_, by omega⟩
  cases sw
  · exact h2.1.2
  · exact h2.1.1
theorem zz38 {j : Int} (h : 0 ≤ j ∧ j < ((60 : Nat) : Int)) : zn (48 + 2 * j.toNat) = true := by
  have h2 := List.all_eq_true.mp rz38_all j.toNat (List.mem_range.mpr (by omega))
  simp only [Bool.and_eq_true, decide_eq_true_eq] at h2
  exact h2.2
theorem rz180_all : ((List.range 16).all fun i => decide (wk_ref true 180 i = 183 + 2 * i) && decide (wk_ref false 180 i = 183 + 2 * i) && zn (183 + 2 * i)) = true := by decide +kernel
theorem rz180 {j : Int} (hw : wk sw w) (h : 0 ≤ j ∧ j < ((16 : Nat) : Int)) : w.2.1 180 j.toNat = 183 + 2 * j.toNat ∧ 183 + 2 * j.toNat ≠ 0 := by
  have h2 := List.all_eq_true.mp rz180_all j.toNat (List.mem_range.mpr (by omega))
  simp only [Bool.and_eq_true, decide_eq_true_eq] at h2
  refine ⟨(hw.2.1 180 j.toNat (by decide) (by decide)).trans ?_, by omega⟩
  cases sw
  · exact h2.1.2
  · exact h2.1.1
theorem zz180 {j : Int} (h : 0 ≤ j ∧ j < ((16 : Nat) : Int)) : zn (183 + 2 * j.toNat) = true := by
  have h2 := List.all_eq_true.mp rz180_all j.toNat (List.mem_range.mpr (by omega))
  simp only [Bool.and_eq_true, decide_eq_true_eq] at h2
  exact h2.2
theorem zn32 : zn 32 = true := by decide
theorem zn34 : zn 34 = true := by decide
theorem zn46 : zn 46 = true := by decide
theorem zn176 : zn 176 = true := by decide
end WK
