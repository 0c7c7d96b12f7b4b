/-! the methods: names, places, what they answer; printed by wip/gen/code.py out of the decode rows -/
abbrev m_J6_bitCount : Nat := 0
abbrev m_Hi_init : Nat := 1
abbrev m_Hi_note : Nat := 2
abbrev m_Hi_loseOldest : Nat := 3
abbrev m_Hi_takeBack : Nat := 4
abbrev m_Hi_becomes : Nat := 5
abbrev m_Ho_init : Nat := 6
abbrev m_Ho_look : Nat := 7
abbrev m_Ho_ofCount : Nat := 8
abbrev m_Ho_turnedBy : Nat := 9
abbrev m_Ho_faults : Nat := 10
abbrev m_Ho_isFree : Nat := 11
abbrev m_Ho_freeSets : Nat := 12
abbrev m_Ho_leastFree : Nat := 13
abbrev m_Pa_init : Nat := 14
abbrev m_Pa_most : Nat := 15
abbrev m_Pa_solve : Nat := 16
abbrev m_Pa_begin : Nat := 17
abbrev m_Pa_entering : Nat := 18
abbrev m_Pa_leaving : Nat := 19
abbrev m_Pa_isAhead : Nat := 20
abbrev m_Pa_pivot : Nat := 21
abbrev m_Pa_clearBy : Nat := 22
abbrev m_Pl_init : Nat := 23
abbrev m_Pl_becomeAll : Nat := 24
abbrev m_Pl_moveIn : Nat := 25
abbrev m_Pl_placeOf : Nat := 26
abbrev m_Pl_become : Nat := 27
abbrev m_Pl_lose : Nat := 28
abbrev m_Pl_weightOn : Nat := 29
abbrev m_Pl_greatestWeight : Nat := 30
abbrev m_Pr_init : Nat := 31
abbrev m_Pr_play : Nat := 32
abbrev m_Pr_playLost : Nat := 33
abbrev m_Pr_placeOf : Nat := 34
abbrev m_Pr_openOf : Nat := 35
abbrev m_Pr_isOver : Nat := 36
abbrev m_Pr_probesFrom : Nat := 37
abbrev m_Pr_probesBy : Nat := 38
abbrev m_Pr_worst : Nat := 39
abbrev m_Pr_best : Nat := 40
abbrev m_Re_init : Nat := 41
abbrev m_Re_faultOfTape : Nat := 42
abbrev m_Re_faultUnless : Nat := 43
abbrev m_Re_skipName : Nat := 44
abbrev m_Re_isName : Nat := 45
abbrev m_Re_next : Nat := 46
abbrev m_Re_skips : Nat := 47
abbrev m_Re_figure : Nat := 48
abbrev m_Re_ends : Nat := 49
abbrev m_Re_isTold : Nat := 50
abbrev m_Re_tell : Nat := 51
abbrev m_Re_majority : Nat := 52
abbrev m_Re_grid : Nat := 53
abbrev m_Re_wallRow : Nat := 54
abbrev m_Re_wall : Nat := 55
abbrev m_Re_isWallTold : Nat := 56
abbrev m_Re_waysBelow : Nat := 57
abbrev m_Re_chosenBelow : Nat := 58
abbrev m_Re_plane : Nat := 59
abbrev m_Re_figures : Nat := 60
abbrev m_Re_isGroupTold : Nat := 61
abbrev m_Ro_init : Nat := 62
abbrev m_Ro_takes : Nat := 63
abbrev m_Ro_nature : Nat := 64
abbrev m_Ro_anyTwoMeet : Nat := 65
abbrev m_Ro_isNonePart : Nat := 66
abbrev m_Ro_isOneCount : Nat := 67
abbrev m_Ro_isEven : Nat := 68
abbrev m_Ro_timesOf : Nat := 69
abbrev m_Ro_isJustGroups : Nat := 70
abbrev m_Sh_init : Nat := 71
abbrev m_Sh_begin : Nat := 72
abbrev m_Sh_spans : Nat := 73
abbrev m_Sh_refusal : Nat := 74
abbrev m_Sh_at : Nat := 75
abbrev m_Sh_put : Nat := 76
abbrev m_Sh_lowestBits : Nat := 77
abbrev m_St_init : Nat := 78
abbrev m_St_becomes : Nat := 79
abbrev m_St_becomesTold : Nat := 80
abbrev m_St_all : Nat := 81
abbrev m_St_isPart : Nat := 82
abbrev m_St_isSet : Nat := 83
abbrev m_St_hasBeyond : Nat := 84
abbrev m_St_placeOf : Nat := 85
abbrev m_St_append : Nat := 86
abbrev m_St_removeAt : Nat := 87
abbrev m_St_drawTurn : Nat := 88
abbrev m_St_holdsGroup : Nat := 89
abbrev m_St_isSuperfluous : Nat := 90
abbrev m_St_leastCommonOf : Nat := 91
abbrev m_St_groupsWith : Nat := 92
abbrev m_St_common : Nat := 93
abbrev m_Ta_init : Nat := 94
abbrev m_Ta_append : Nat := 95
abbrev m_Ta_at : Nat := 96
abbrev m_MG_init : Nat := 97
abbrev m_MG_group : Nat := 98
abbrev m_MG_element : Nat := 99
abbrev m_MG_count : Nat := 100
abbrev m_MG_load : Nat := 101
abbrev m_MG_plan : Nat := 102
abbrev m_MG_standing : Nat := 103
abbrev m_MG_stands : Nat := 104
abbrev m_MG_free : Nat := 105
abbrev m_MG_probe : Nat := 106
abbrev m_MG_add : Nat := 107
abbrev m_MG_out : Nat := 108
abbrev m_MG_size : Nat := 109
abbrev m_MG_type : Nat := 110
abbrev m_MG_read : Nat := 111
abbrev m_MG_drift : Nat := 112
abbrev m_MG_undo : Nat := 113
abbrev m_MG_seed : Nat := 114
abbrev m_MG_image : Nat := 115
abbrev m_MG_restore : Nat := 116
abbrev m_MG_keep : Nat := 117
abbrev m_MG_what : Nat := 118
abbrev m_MG_film : Nat := 119
abbrev m_MG_sheet : Nat := 120
abbrev m_MG_drop : Nat := 121
abbrev m_MG_item : Nat := 122
abbrev m_MG_copy : Nat := 123
abbrev m_MG_isSheet : Nat := 124
abbrev m_MG_isLane : Nat := 125
abbrev m_MG_oneIf : Nat := 126
abbrev m_MG_strength : Nat := 127
abbrev m_MG_power : Nat := 128
abbrev m_MG_ofFraction : Nat := 129
abbrev m_MG_commonDivisor : Nat := 130
abbrev m_MD_in : Nat := 131
abbrev m_MD_init : Nat := 132
abbrev m_MD_has : Nat := 133
abbrev m_MD_bits : Nat := 134
abbrev m_MD_all : Nat := 135
abbrev m_MD_at : Nat := 136
abbrev m_MD_find : Nat := 137
abbrev m_MD_holds : Nat := 138
abbrev m_MD_isMore : Nat := 139
abbrev m_MD_leastWith : Nat := 140
abbrev m_MD_group : Nat := 141
abbrev m_MD_turns : Nat := 142
abbrev m_MD_element : Nat := 143
abbrev m_MD_common : Nat := 144
abbrev m_MD_faults : Nat := 145
abbrev m_MD_liars : Nat := 146
abbrev m_MD_count : Nat := 147
abbrev m_MD_reduces : Nat := 148
abbrev m_MD_nth : Nat := 149
abbrev m_MD_squares : Nat := 150
abbrev m_MD_swaps : Nat := 151
abbrev m_MD_solves : Nat := 152
abbrev m_MD_takes : Nat := 153
abbrev m_MD_clears : Nat := 154
abbrev m_MD_bears : Nat := 155
abbrev m_MD_loadOf : Nat := 156
abbrev m_MD_evens : Nat := 157
abbrev m_MD_slim : Nat := 158
abbrev m_MD_loads : Nat := 159
abbrev m_MD_load : Nat := 160
abbrev m_MD_planAt : Nat := 161
abbrev m_MD_weighs : Nat := 162
abbrev m_MD_plan : Nat := 163
abbrev m_MD_drops : Nat := 164
abbrev m_MD_keep : Nat := 165
abbrev m_MD_standing : Nat := 166
abbrev m_MD_stands : Nat := 167
abbrev m_MD_isFree : Nat := 168
abbrev m_MD_free : Nat := 169
abbrev m_MD_power : Nat := 170
abbrev m_MD_digit : Nat := 171
abbrev m_MD_those : Nat := 172
abbrev m_MD_probesOf : Nat := 173
abbrev m_MD_probe : Nat := 174
abbrev m_MD_add : Nat := 175
abbrev m_MD_comes : Nat := 176
abbrev m_MD_goes : Nat := 177
abbrev m_MD_out : Nat := 178
abbrev m_MD_size : Nat := 179
abbrev m_MD_drift : Nat := 180
abbrev m_MD_seed : Nat := 181
abbrev m_MD_type : Nat := 182
abbrev m_MD_here : Nat := 183
abbrev m_MD_figure : Nat := 184
abbrev m_MD_gets : Nat := 185
abbrev m_MD_isGot : Nat := 186
abbrev m_MD_majority : Nat := 187
abbrev m_MD_grid : Nat := 188
abbrev m_MD_wall : Nat := 189
abbrev m_MD_walls : Nat := 190
abbrev m_MD_plane : Nat := 191
abbrev m_MD_told : Nat := 192
abbrev m_MD_one : Nat := 193
abbrev m_MD_isName : Nat := 194
abbrev m_MD_isText : Nat := 195
abbrev m_MD_read : Nat := 196
abbrev m_MD_notes : Nat := 197
abbrev m_MD_undo : Nat := 198
abbrev m_MD_image : Nat := 199
abbrev m_MD_restore : Nat := 200
abbrev m_MD_isSheet : Nat := 201
abbrev m_MD_cut : Nat := 202
abbrev m_MD_sheet : Nat := 203
abbrev m_MD_drop : Nat := 204
abbrev m_MD_why : Nat := 205
abbrev m_MD_item : Nat := 206
abbrev m_MD_copy : Nat := 207
abbrev m_MD_row : Nat := 208
abbrev m_MD_ofTwo : Nat := 209
abbrev m_MD_isEven : Nat := 210
abbrev m_MD_isJust : Nat := 211
abbrev m_MD_what : Nat := 212
abbrev m_MD_film : Nat := 213
abbrev m_La_law : Nat := 214
def am_c_J6_bitCount : List am_E := [(0, .iload_n 0, 1, 0, 0, 0, .null, []),
  (1, .iload_n 0, 1, 0, 0, 0, .null, []),
  (2, .iconst 1, 1, 0, 0, 0, .int 1, []),
  (3, .iushr, 1, 0, 0, 0, .null, []),
  (4, .ldc_w 265, 3, 0, 0, 0, .int 1431655765, []),
  (7, .iand, 1, 0, 0, 0, .null, []),
  (8, .isub, 1, 0, 0, 0, .null, []),
  (9, .istore_n 0, 1, 0, 0, 0, .null, []),
  (10, .iload_n 0, 1, 0, 0, 0, .null, []),
  (11, .ldc_w 266, 3, 0, 0, 0, .int 858993459, []),
  (14, .iand, 1, 0, 0, 0, .null, []),
  (15, .iload_n 0, 1, 0, 0, 0, .null, []),
  (16, .iconst 2, 1, 0, 0, 0, .int 2, []),
  (17, .iushr, 1, 0, 0, 0, .null, []),
  (18, .ldc_w 266, 3, 0, 0, 0, .int 858993459, []),
  (21, .iand, 1, 0, 0, 0, .null, []),
  (22, .iadd, 1, 0, 0, 0, .null, []),
  (23, .istore_n 0, 1, 0, 0, 0, .null, []),
  (24, .iload_n 0, 1, 0, 0, 0, .null, []),
  (25, .iload_n 0, 1, 0, 0, 0, .null, []),
  (26, .iconst 4, 1, 0, 0, 0, .int 4, []),
  (27, .iushr, 1, 0, 0, 0, .null, []),
  (28, .iadd, 1, 0, 0, 0, .null, []),
  (29, .ldc_w 267, 3, 0, 0, 0, .int 252645135, []),
  (32, .iand, 1, 0, 0, 0, .null, []),
  (33, .istore_n 0, 1, 0, 0, 0, .null, []),
  (34, .iload_n 0, 1, 0, 0, 0, .null, []),
  (35, .iload_n 0, 1, 0, 0, 0, .null, []),
  (36, .bipush 8, 2, 0, 0, 0, .int 8, []),
  (38, .iushr, 1, 0, 0, 0, .null, []),
  (39, .iadd, 1, 0, 0, 0, .null, []),
  (40, .istore_n 0, 1, 0, 0, 0, .null, []),
  (41, .iload_n 0, 1, 0, 0, 0, .null, []),
  (42, .iload_n 0, 1, 0, 0, 0, .null, []),
  (43, .bipush 16, 2, 0, 0, 0, .int 16, []),
  (45, .iushr, 1, 0, 0, 0, .null, []),
  (46, .iadd, 1, 0, 0, 0, .null, []),
  (47, .istore_n 0, 1, 0, 0, 0, .null, []),
  (48, .iload_n 0, 1, 0, 0, 0, .null, []),
  (49, .bipush 63, 2, 0, 0, 0, .int 63, []),
  (51, .iand, 1, 0, 0, 0, .null, []),
  (52, .ireturn, 1, 0, 0, 0, .null, [])]
def am_c_Hi_init : List am_E := [(0, .aload_n 0, 1, 0, 0, 0, .null, []),
  (1, .invokespecial 3, 3, 0, 0, 1, .null, []),
  (4, .aload_n 0, 1, 0, 0, 0, .null, []),
  (5, .iconst 0, 1, 0, 0, 0, .int 0, []),
  (6, .putfield 9, 3, 0, 0, 0, .null, []),
  (9, .aload_n 0, 1, 0, 0, 0, .null, []),
  (10, .bipush 6, 2, 0, 0, 0, .int 6, []),
  (12, .anewarray 15, 3, 18, 0, 0, .null, []),
  (15, .putfield 17, 3, 0, 1, 2, .null, []),
  (18, .iconst 0, 1, 0, 0, 0, .int 0, []),
  (19, .istore_n 1, 1, 0, 0, 0, .null, []),
  (20, .iload_n 1, 1, 0, 0, 0, .null, [(0, 0)]),
  (21, .bipush 6, 2, 0, 0, 0, .int 6, []),
  (23, .if_icmp .ge 22, 3, 45, 0, 0, .null, []),
  (26, .aload_n 0, 1, 0, 0, 0, .null, []),
  (27, .getfield 17, 3, 0, 1, 2, .null, []),
  (30, .iload_n 1, 1, 0, 0, 0, .null, []),
  (31, .new 15, 3, 8, 0, 0, .null, []),
  (34, .dup, 1, 0, 0, 0, .null, []),
  (35, .invokespecial 21, 3, 78, 0, 2, .null, []),
  (38, .aastore, 1, 18, 8, 0, .null, []),
  (39, .iinc 1 1, 3, 0, 0, 0, .int 1, []),
  (42, .goto (-22), 3, 20, 0, 0, .null, []),
  (45, .return_, 1, 0, 0, 0, .null, [])]
def am_c_Hi_note : List am_E := [(0, .aload_n 0, 1, 0, 0, 0, .null, []),
  (1, .getfield 9, 3, 0, 0, 0, .null, []),
  (4, .bipush 6, 2, 0, 0, 0, .int 6, []),
  (6, .if_icmp .lt 7, 3, 13, 0, 0, .null, []),
  (9, .aload_n 0, 1, 0, 0, 0, .null, []),
  (10, .invokevirtual 22, 3, 3, 0, 2, .null, []),
  (13, .aload_n 0, 1, 0, 0, 0, .null, []),
  (14, .getfield 17, 3, 0, 1, 2, .null, []),
  (17, .aload_n 0, 1, 0, 0, 0, .null, []),
  (18, .getfield 9, 3, 0, 0, 0, .null, []),
  (21, .aaload, 1, 18, 0, 0, .null, []),
  (22, .aload_n 1, 1, 0, 0, 0, .null, []),
  (23, .invokevirtual 25, 3, 79, 1, 10, .null, []),
  (26, .aload_n 0, 1, 0, 0, 0, .null, []),
  (27, .dup, 1, 0, 0, 0, .null, []),
  (28, .getfield 9, 3, 0, 0, 0, .null, []),
  (31, .iconst 1, 1, 0, 0, 0, .int 1, []),
  (32, .iadd, 1, 0, 0, 0, .null, []),
  (33, .putfield 9, 3, 0, 0, 0, .null, []),
  (36, .return_, 1, 0, 0, 0, .null, [])]
def am_c_Hi_loseOldest : List am_E := [(0, .aload_n 0, 1, 0, 0, 0, .null, []),
  (1, .getfield 17, 3, 0, 1, 2, .null, []),
  (4, .iconst 0, 1, 0, 0, 0, .int 0, []),
  (5, .aaload, 1, 18, 0, 0, .null, []),
  (6, .astore_n 1, 1, 0, 0, 0, .null, []),
  (7, .iconst 1, 1, 0, 0, 0, .int 1, []),
  (8, .istore_n 2, 1, 0, 0, 0, .null, []),
  (9, .iload_n 2, 1, 0, 0, 0, .null, [(0, 0)]),
  (10, .bipush 6, 2, 0, 0, 0, .int 6, []),
  (12, .if_icmp .ge 23, 3, 35, 0, 0, .null, []),
  (15, .aload_n 0, 1, 0, 0, 0, .null, []),
  (16, .getfield 17, 3, 0, 1, 2, .null, []),
  (19, .iload_n 2, 1, 0, 0, 0, .null, []),
  (20, .iconst 1, 1, 0, 0, 0, .int 1, []),
  (21, .isub, 1, 0, 0, 0, .null, []),
  (22, .aload_n 0, 1, 0, 0, 0, .null, []),
  (23, .getfield 17, 3, 0, 1, 2, .null, []),
  (26, .iload_n 2, 1, 0, 0, 0, .null, []),
  (27, .aaload, 1, 18, 0, 0, .null, []),
  (28, .aastore, 1, 18, 8, 0, .null, []),
  (29, .iinc 2 1, 3, 0, 0, 0, .int 1, []),
  (32, .goto (-23), 3, 9, 0, 0, .null, []),
  (35, .aload_n 0, 1, 0, 0, 0, .null, []),
  (36, .getfield 17, 3, 0, 1, 2, .null, []),
  (39, .iconst 5, 1, 0, 0, 0, .int 5, []),
  (40, .aload_n 1, 1, 0, 0, 0, .null, []),
  (41, .aastore, 1, 18, 8, 0, .null, []),
  (42, .aload_n 0, 1, 0, 0, 0, .null, []),
  (43, .iconst 5, 1, 0, 0, 0, .int 5, []),
  (44, .putfield 9, 3, 0, 0, 0, .null, []),
  (47, .return_, 1, 0, 0, 0, .null, [])]
def am_c_Hi_takeBack : List am_E := [(0, .aload_n 0, 1, 0, 0, 0, .null, []),
  (1, .getfield 9, 3, 0, 0, 0, .null, []),
  (4, .ifCond .le 26, 3, 30, 0, 0, .null, []),
  (7, .aload_n 0, 1, 0, 0, 0, .null, []),
  (8, .dup, 1, 0, 0, 0, .null, []),
  (9, .getfield 9, 3, 0, 0, 0, .null, []),
  (12, .iconst 1, 1, 0, 0, 0, .int 1, []),
  (13, .isub, 1, 0, 0, 0, .null, []),
  (14, .putfield 9, 3, 0, 0, 0, .null, []),
  (17, .aload_n 1, 1, 0, 0, 0, .null, []),
  (18, .aload_n 0, 1, 0, 0, 0, .null, []),
  (19, .getfield 17, 3, 0, 1, 2, .null, []),
  (22, .aload_n 0, 1, 0, 0, 0, .null, []),
  (23, .getfield 9, 3, 0, 0, 0, .null, []),
  (26, .aaload, 1, 18, 0, 0, .null, []),
  (27, .invokevirtual 25, 3, 79, 1, 10, .null, []),
  (30, .return_, 1, 0, 0, 0, .null, [])]
def am_c_Hi_becomes : List am_E := [(0, .aload_n 0, 1, 0, 0, 0, .null, []),
  (1, .aload_n 1, 1, 0, 0, 0, .null, []),
  (2, .getfield 9, 3, 0, 0, 0, .null, []),
  (5, .putfield 9, 3, 0, 0, 0, .null, []),
  (8, .iconst 0, 1, 0, 0, 0, .int 0, []),
  (9, .istore_n 2, 1, 0, 0, 0, .null, []),
  (10, .iload_n 2, 1, 0, 0, 0, .null, [(0, 0)]),
  (11, .aload_n 0, 1, 0, 0, 0, .null, []),
  (12, .getfield 9, 3, 0, 0, 0, .null, []),
  (15, .if_icmp .ge 24, 3, 39, 0, 0, .null, []),
  (18, .aload_n 0, 1, 0, 0, 0, .null, []),
  (19, .getfield 17, 3, 0, 1, 2, .null, []),
  (22, .iload_n 2, 1, 0, 0, 0, .null, []),
  (23, .aaload, 1, 18, 0, 0, .null, []),
  (24, .aload_n 1, 1, 0, 0, 0, .null, []),
  (25, .getfield 17, 3, 0, 1, 2, .null, []),
  (28, .iload_n 2, 1, 0, 0, 0, .null, []),
  (29, .aaload, 1, 18, 0, 0, .null, []),
  (30, .invokevirtual 25, 3, 79, 1, 10, .null, []),
  (33, .iinc 2 1, 3, 0, 0, 0, .int 1, []),
  (36, .goto (-26), 3, 10, 0, 0, .null, []),
  (39, .return_, 1, 0, 0, 0, .null, [])]
def am_c_Ho_init : List am_E := [(0, .aload_n 0, 1, 0, 0, 0, .null, []),
  (1, .invokespecial 3, 3, 0, 0, 1, .null, []),
  (4, .aload_n 0, 1, 0, 0, 0, .null, []),
  (5, .iconst 0, 1, 0, 0, 0, .int 0, []),
  (6, .putfield 9, 3, 1, 0, 0, .null, []),
  (9, .aload_n 0, 1, 0, 0, 0, .null, []),
  (10, .sipush 128, 3, 0, 0, 0, .int 128, []),
  (13, .newarray .boolean, 2, 16, 0, 0, .null, []),
  (15, .putfield 15, 3, 1, 1, 2, .null, []),
  (18, .return_, 1, 0, 0, 0, .null, [])]
def am_c_Ho_look : List am_E := [(0, .aload_n 0, 1, 0, 0, 0, .null, []),
  (1, .aload_n 1, 1, 0, 0, 0, .null, []),
  (2, .invokevirtual 19, 3, 81, 0, 10, .null, []),
  (5, .putfield 9, 3, 1, 0, 0, .null, []),
  (8, .iconst 0, 1, 0, 0, 0, .int 0, []),
  (9, .istore_n 2, 1, 0, 0, 0, .null, []),
  (10, .iload_n 2, 1, 0, 0, 0, .null, [(0, 0)]),
  (11, .aload_n 0, 1, 0, 0, 0, .null, []),
  (12, .getfield 9, 3, 1, 0, 0, .null, []),
  (15, .if_icmp .gt 20, 3, 35, 0, 0, .null, []),
  (18, .aload_n 0, 1, 0, 0, 0, .null, []),
  (19, .getfield 15, 3, 1, 1, 2, .null, []),
  (22, .iload_n 2, 1, 0, 0, 0, .null, []),
  (23, .aload_n 1, 1, 0, 0, 0, .null, []),
  (24, .iload_n 2, 1, 0, 0, 0, .null, []),
  (25, .invokevirtual 24, 3, 89, 1, 10, .null, []),
  (28, .bastore, 1, 16, 0, 0, .null, []),
  (29, .iinc 2 1, 3, 0, 0, 0, .int 1, []),
  (32, .goto (-22), 3, 10, 0, 0, .null, []),
  (35, .return_, 1, 0, 0, 0, .null, [])]
def am_c_Ho_ofCount : List am_E := [(0, .iconst 0, 1, 0, 0, 0, .int 0, []),
  (1, .istore_n 2, 1, 0, 0, 0, .null, []),
  (2, .iconst 0, 1, 0, 0, 0, .int 0, []),
  (3, .istore_n 3, 1, 0, 0, 0, .null, []),
  (4, .iload_n 3, 1, 0, 0, 0, .null, [(0, 0)]),
  (5, .aload_n 0, 1, 0, 0, 0, .null, []),
  (6, .getfield 9, 3, 1, 0, 0, .null, []),
  (9, .if_icmp .gt 29, 3, 38, 0, 0, .null, []),
  (12, .aload_n 0, 1, 0, 0, 0, .null, []),
  (13, .getfield 15, 3, 1, 1, 2, .null, []),
  (16, .iload_n 3, 1, 0, 0, 0, .null, []),
  (17, .baload, 1, 16, 0, 0, .null, []),
  (18, .ifCond .eq 14, 3, 32, 0, 0, .null, []),
  (21, .iload_n 3, 1, 0, 0, 0, .null, []),
  (22, .invokestatic 28, 3, 0, 1, 0, .null, []),
  (25, .iload_n 1, 1, 0, 0, 0, .null, []),
  (26, .if_icmp .ne 6, 3, 32, 0, 0, .null, []),
  (29, .iinc 2 1, 3, 0, 0, 0, .int 1, []),
  (32, .iinc 3 1, 3, 0, 0, 0, .int 1, []),
  (35, .goto (-31), 3, 4, 0, 0, .null, []),
  (38, .iload_n 2, 1, 0, 0, 0, .null, []),
  (39, .ireturn, 1, 0, 0, 0, .null, [])]
def am_c_Ho_turnedBy : List am_E := [(0, .iconst 0, 1, 0, 0, 0, .int 0, []),
  (1, .istore_n 2, 1, 0, 0, 0, .null, []),
  (2, .iconst 0, 1, 0, 0, 0, .int 0, []),
  (3, .istore_n 3, 1, 0, 0, 0, .null, []),
  (4, .iload_n 3, 1, 0, 0, 0, .null, [(0, 0)]),
  (5, .aload_n 0, 1, 0, 0, 0, .null, []),
  (6, .getfield 9, 3, 1, 0, 0, .null, []),
  (9, .if_icmp .gt 38, 3, 47, 0, 0, .null, []),
  (12, .iload_n 3, 1, 0, 0, 0, .null, []),
  (13, .iload_n 1, 1, 0, 0, 0, .null, []),
  (14, .iand, 1, 0, 0, 0, .null, []),
  (15, .ifCond .ne 26, 3, 41, 0, 0, .null, []),
  (18, .aload_n 0, 1, 0, 0, 0, .null, []),
  (19, .getfield 15, 3, 1, 1, 2, .null, []),
  (22, .iload_n 3, 1, 0, 0, 0, .null, []),
  (23, .baload, 1, 16, 0, 0, .null, []),
  (24, .ifCond .ne 17, 3, 41, 0, 0, .null, []),
  (27, .aload_n 0, 1, 0, 0, 0, .null, []),
  (28, .getfield 15, 3, 1, 1, 2, .null, []),
  (31, .iload_n 3, 1, 0, 0, 0, .null, []),
  (32, .iload_n 1, 1, 0, 0, 0, .null, []),
  (33, .ior, 1, 0, 0, 0, .null, []),
  (34, .baload, 1, 16, 0, 0, .null, []),
  (35, .ifCond .eq 6, 3, 41, 0, 0, .null, []),
  (38, .iinc 2 1, 3, 0, 0, 0, .int 1, []),
  (41, .iinc 3 1, 3, 0, 0, 0, .int 1, []),
  (44, .goto (-40), 3, 4, 0, 0, .null, []),
  (47, .iload_n 2, 1, 0, 0, 0, .null, []),
  (48, .ireturn, 1, 0, 0, 0, .null, [])]
def am_c_Ho_faults : List am_E := [(0, .bipush 8, 2, 0, 0, 0, .int 8, []),
  (2, .istore_n 1, 1, 0, 0, 0, .null, []),
  (3, .iconst 0, 1, 0, 0, 0, .int 0, []),
  (4, .istore_n 2, 1, 0, 0, 0, .null, []),
  (5, .iload_n 2, 1, 0, 0, 0, .null, [(0, 0)]),
  (6, .aload_n 0, 1, 0, 0, 0, .null, []),
  (7, .getfield 9, 3, 1, 0, 0, .null, []),
  (10, .if_icmp .gt 32, 3, 42, 0, 0, .null, []),
  (13, .aload_n 0, 1, 0, 0, 0, .null, []),
  (14, .getfield 15, 3, 1, 1, 2, .null, []),
  (17, .aload_n 0, 1, 0, 0, 0, .null, []),
  (18, .getfield 9, 3, 1, 0, 0, .null, []),
  (21, .iload_n 2, 1, 0, 0, 0, .null, []),
  (22, .ixor, 1, 0, 0, 0, .null, []),
  (23, .baload, 1, 16, 0, 0, .null, []),
  (24, .ifCond .ne 12, 3, 36, 0, 0, .null, []),
  (27, .iload_n 1, 1, 0, 0, 0, .null, []),
  (28, .iload_n 2, 1, 0, 0, 0, .null, []),
  (29, .invokestatic 28, 3, 0, 1, 0, .null, []),
  (32, .invokestatic 34, 3, 0, 2, 4, .null, []),
  (35, .istore_n 1, 1, 0, 0, 0, .null, []),
  (36, .iinc 2 1, 3, 0, 0, 0, .int 1, []),
  (39, .goto (-34), 3, 5, 0, 0, .null, []),
  (42, .iload_n 1, 1, 0, 0, 0, .null, []),
  (43, .iconst 1, 1, 0, 0, 0, .int 1, []),
  (44, .isub, 1, 0, 0, 0, .null, []),
  (45, .ireturn, 1, 0, 0, 0, .null, [])]
def am_c_Ho_isFree : List am_E := [(0, .aload_n 0, 1, 0, 0, 0, .null, []),
  (1, .getfield 15, 3, 1, 1, 2, .null, []),
  (4, .iload_n 1, 1, 0, 0, 0, .null, []),
  (5, .baload, 1, 16, 0, 0, .null, []),
  (6, .ifCond .ne 21, 3, 27, 0, 0, .null, []),
  (9, .aload_n 0, 1, 0, 0, 0, .null, []),
  (10, .getfield 15, 3, 1, 1, 2, .null, []),
  (13, .aload_n 0, 1, 0, 0, 0, .null, []),
  (14, .getfield 9, 3, 1, 0, 0, .null, []),
  (17, .iload_n 1, 1, 0, 0, 0, .null, []),
  (18, .ixor, 1, 0, 0, 0, .null, []),
  (19, .baload, 1, 16, 0, 0, .null, []),
  (20, .ifCond .ne 7, 3, 27, 0, 0, .null, []),
  (23, .iconst 1, 1, 0, 0, 0, .int 1, []),
  (24, .goto 4, 3, 28, 0, 0, .null, []),
  (27, .iconst 0, 1, 0, 0, 0, .int 0, []),
  (28, .ireturn, 1, 0, 0, 0, .null, [])]
def am_c_Ho_freeSets : List am_E := [(0, .iconst 0, 1, 0, 0, 0, .int 0, []),
  (1, .istore_n 1, 1, 0, 0, 0, .null, []),
  (2, .iconst 0, 1, 0, 0, 0, .int 0, []),
  (3, .istore_n 2, 1, 0, 0, 0, .null, []),
  (4, .iload_n 2, 1, 0, 0, 0, .null, [(0, 0)]),
  (5, .aload_n 0, 1, 0, 0, 0, .null, []),
  (6, .getfield 9, 3, 1, 0, 0, .null, []),
  (9, .if_icmp .gt 20, 3, 29, 0, 0, .null, []),
  (12, .aload_n 0, 1, 0, 0, 0, .null, []),
  (13, .iload_n 2, 1, 0, 0, 0, .null, []),
  (14, .invokevirtual 40, 3, 11, 1, 3, .null, []),
  (17, .ifCond .eq 6, 3, 23, 0, 0, .null, []),
  (20, .iinc 1 1, 3, 0, 0, 0, .int 1, []),
  (23, .iinc 2 1, 3, 0, 0, 0, .int 1, []),
  (26, .goto (-22), 3, 4, 0, 0, .null, []),
  (29, .iload_n 1, 1, 0, 0, 0, .null, []),
  (30, .ireturn, 1, 0, 0, 0, .null, [])]
def am_c_Ho_leastFree : List am_E := [(0, .iconst 0, 1, 0, 0, 0, .int 0, []),
  (1, .istore_n 1, 1, 0, 0, 0, .null, []),
  (2, .iload_n 1, 1, 0, 0, 0, .null, [(0, 0)]),
  (3, .aload_n 0, 1, 0, 0, 0, .null, []),
  (4, .getfield 9, 3, 1, 0, 0, .null, []),
  (7, .if_icmp .gt 19, 3, 26, 0, 0, .null, []),
  (10, .aload_n 0, 1, 0, 0, 0, .null, []),
  (11, .iload_n 1, 1, 0, 0, 0, .null, []),
  (12, .invokevirtual 40, 3, 11, 1, 3, .null, []),
  (15, .ifCond .eq 5, 3, 20, 0, 0, .null, []),
  (18, .iload_n 1, 1, 0, 0, 0, .null, []),
  (19, .ireturn, 1, 0, 0, 0, .null, []),
  (20, .iinc 1 1, 3, 0, 0, 0, .int 1, []),
  (23, .goto (-21), 3, 2, 0, 0, .null, []),
  (26, .bipush (-4), 2, 0, 0, 0, .int (-4), []),
  (28, .ireturn, 1, 0, 0, 0, .null, [])]
def am_c_Pa_init : List am_E := [(0, .aload_n 0, 1, 0, 0, 0, .null, []),
  (1, .invokespecial 3, 3, 0, 0, 1, .null, []),
  (4, .aload_n 0, 1, 0, 0, 0, .null, []),
  (5, .bipush 8, 2, 0, 0, 0, .int 8, []),
  (7, .bipush 13, 2, 0, 0, 0, .int 13, []),
  (9, .multianewarray 9 2, 4, 19, 0, 0, .null, []),
  (13, .putfield 11, 3, 2, 0, 2, .null, []),
  (16, .aload_n 0, 1, 0, 0, 0, .null, []),
  (17, .bipush 7, 2, 0, 0, 0, .int 7, []),
  (19, .newarray .int, 2, 14, 0, 0, .null, []),
  (21, .putfield 16, 3, 2, 1, 2, .null, []),
  (24, .aload_n 0, 1, 0, 0, 0, .null, []),
  (25, .bipush 12, 2, 0, 0, 0, .int 12, []),
  (27, .newarray .int, 2, 14, 0, 0, .null, []),
  (29, .putfield 20, 3, 2, 2, 2, .null, []),
  (32, .aload_n 0, 1, 0, 0, 0, .null, []),
  (33, .iconst 0, 1, 0, 0, 0, .int 0, []),
  (34, .putfield 23, 3, 2, 3, 0, .null, []),
  (37, .aload_n 0, 1, 0, 0, 0, .null, []),
  (38, .iconst 0, 1, 0, 0, 0, .int 0, []),
  (39, .putfield 27, 3, 2, 4, 0, .null, []),
  (42, .aload_n 0, 1, 0, 0, 0, .null, []),
  (43, .iconst 1, 1, 0, 0, 0, .int 1, []),
  (44, .putfield 30, 3, 2, 5, 0, .null, []),
  (47, .return_, 1, 0, 0, 0, .null, [])]
def am_c_Pa_most : List am_E := [(0, .aload_n 0, 1, 0, 0, 0, .null, []),
  (1, .getfield 11, 3, 2, 0, 2, .null, []),
  (4, .aload_n 0, 1, 0, 0, 0, .null, []),
  (5, .getfield 23, 3, 2, 3, 0, .null, []),
  (8, .aaload, 1, 19, 0, 0, .null, []),
  (9, .aload_n 0, 1, 0, 0, 0, .null, []),
  (10, .getfield 27, 3, 2, 4, 0, .null, []),
  (13, .iaload, 1, 0, 0, 0, .null, []),
  (14, .ireturn, 1, 0, 0, 0, .null, [])]
def am_c_Pa_solve : List am_E := [(0, .aload_n 0, 1, 0, 0, 0, .null, []),
  (1, .aload_n 1, 1, 0, 0, 0, .null, []),
  (2, .invokevirtual 33, 3, 17, 1, 4, .null, []),
  (5, .aload_n 0, 1, 0, 0, 0, .null, []),
  (6, .invokevirtual 37, 3, 18, 0, 4, .null, []),
  (9, .istore_n 2, 1, 0, 0, 0, .null, []),
  (10, .iconst 0, 1, 0, 0, 0, .int 0, []),
  (11, .istore_n 3, 1, 0, 0, 0, .null, []),
  (12, .iload_n 2, 1, 0, 0, 0, .null, [(0, 0)]),
  (13, .ifCond .lt 40, 3, 53, 0, 0, .null, []),
  (16, .iload_n 3, 1, 0, 0, 0, .null, []),
  (17, .ldc 41, 2, 0, 0, 0, .int 100000, []),
  (19, .if_icmp .ge 34, 3, 53, 0, 0, .null, []),
  (22, .aload_n 0, 1, 0, 0, 0, .null, []),
  (23, .iload_n 2, 1, 0, 0, 0, .null, []),
  (24, .invokevirtual 42, 3, 19, 1, 4, .null, []),
  (27, .istore 4, 2, 0, 0, 0, .null, []),
  (29, .iload 4, 2, 0, 0, 0, .null, []),
  (31, .ifCond .ge 4, 3, 35, 0, 0, .null, []),
  (34, .return_, 1, 0, 0, 0, .null, []),
  (35, .aload_n 0, 1, 0, 0, 0, .null, []),
  (36, .iload 4, 2, 0, 0, 0, .null, []),
  (38, .iload_n 2, 1, 0, 0, 0, .null, []),
  (39, .invokevirtual 46, 3, 21, 2, 4, .null, []),
  (42, .aload_n 0, 1, 0, 0, 0, .null, []),
  (43, .invokevirtual 37, 3, 18, 0, 4, .null, []),
  (46, .istore_n 2, 1, 0, 0, 0, .null, []),
  (47, .iinc 3 1, 3, 0, 0, 0, .int 1, []),
  (50, .goto (-38), 3, 12, 0, 0, .null, []),
  (53, .return_, 1, 0, 0, 0, .null, [])]
def am_c_Pa_begin_1 : List am_E := [(78, .iinc 3 1, 3, 0, 0, 0, .int 1, []),
  (81, .goto (-29), 3, 52, 0, 0, .null, []),
  (84, .iinc 2 1, 3, 0, 0, 0, .int 1, []),
  (87, .goto (-64), 3, 23, 0, 0, .null, []),
  (90, .iconst 0, 1, 0, 0, 0, .int 0, []),
  (91, .istore_n 2, 1, 0, 0, 0, .null, []),
  (92, .iload_n 2, 1, 0, 0, 0, .null, [(0, 0)]),
  (93, .aload_n 0, 1, 0, 0, 0, .null, []),
  (94, .getfield 23, 3, 2, 3, 0, .null, []),
  (97, .if_icmp .ge 31, 3, 128, 0, 0, .null, []),
  (100, .aload_n 0, 1, 0, 0, 0, .null, []),
  (101, .getfield 16, 3, 2, 1, 2, .null, []),
  (104, .iload_n 2, 1, 0, 0, 0, .null, []),
  (105, .bipush 12, 2, 0, 0, 0, .int 12, []),
  (107, .iload_n 2, 1, 0, 0, 0, .null, []),
  (108, .iadd, 1, 0, 0, 0, .null, []),
  (109, .iastore, 1, 0, 0, 0, .null, []),
  (110, .aload_n 0, 1, 0, 0, 0, .null, []),
  (111, .getfield 11, 3, 2, 0, 2, .null, []),
  (114, .iload_n 2, 1, 0, 0, 0, .null, []),
  (115, .aaload, 1, 19, 0, 0, .null, []),
  (116, .aload_n 0, 1, 0, 0, 0, .null, []),
  (117, .getfield 27, 3, 2, 4, 0, .null, []),
  (120, .iconst 1, 1, 0, 0, 0, .int 1, []),
  (121, .iastore, 1, 0, 0, 0, .null, []),
  (122, .iinc 2 1, 3, 0, 0, 0, .int 1, []),
  (125, .goto (-33), 3, 92, 0, 0, .null, []),
  (128, .aload_n 0, 1, 0, 0, 0, .null, []),
  (129, .getfield 11, 3, 2, 0, 2, .null, []),
  (132, .aload_n 0, 1, 0, 0, 0, .null, []),
  (133, .getfield 23, 3, 2, 3, 0, .null, []),
  (136, .aaload, 1, 19, 0, 0, .null, []),
  (137, .aload_n 0, 1, 0, 0, 0, .null, []),
  (138, .getfield 27, 3, 2, 4, 0, .null, []),
  (141, .iconst 0, 1, 0, 0, 0, .int 0, []),
  (142, .iastore, 1, 0, 0, 0, .null, []),
  (143, .return_, 1, 0, 0, 0, .null, [])]
def am_c_Pa_begin : List am_E := (0, .aload_n 0, 1, 0, 0, 0, .null, []) ::
  (1, .aload_n 1, 1, 0, 0, 0, .null, []) ::
  (2, .getfield 50, 3, 8, 0, 0, .null, []) ::
  (5, .putfield 23, 3, 2, 3, 0, .null, []) ::
  (8, .aload_n 0, 1, 0, 0, 0, .null, []) ::
  (9, .aload_n 1, 1, 0, 0, 0, .null, []) ::
  (10, .getfield 55, 3, 8, 1, 0, .null, []) ::
  (13, .putfield 27, 3, 2, 4, 0, .null, []) ::
  (16, .aload_n 0, 1, 0, 0, 0, .null, []) ::
  (17, .iconst 1, 1, 0, 0, 0, .int 1, []) ::
  (18, .putfield 30, 3, 2, 5, 0, .null, []) ::
  (21, .iconst 0, 1, 0, 0, 0, .int 0, []) ::
  (22, .istore_n 2, 1, 0, 0, 0, .null, []) ::
  (23, .iload_n 2, 1, 0, 0, 0, .null, [(0, 0)]) ::
  (24, .aload_n 0, 1, 0, 0, 0, .null, []) ::
  (25, .getfield 27, 3, 2, 4, 0, .null, []) ::
  (28, .if_icmp .ge 62, 3, 90, 0, 0, .null, []) ::
  (31, .aload_n 0, 1, 0, 0, 0, .null, []) ::
  (32, .getfield 20, 3, 2, 2, 2, .null, []) ::
  (35, .iload_n 2, 1, 0, 0, 0, .null, []) ::
  (36, .iload_n 2, 1, 0, 0, 0, .null, []) ::
  (37, .iastore, 1, 0, 0, 0, .null, []) ::
  (38, .aload_n 0, 1, 0, 0, 0, .null, []) ::
  (39, .getfield 11, 3, 2, 0, 2, .null, []) ::
  (42, .aload_n 0, 1, 0, 0, 0, .null, []) ::
  (43, .getfield 23, 3, 2, 3, 0, .null, []) ::
  (46, .aaload, 1, 19, 0, 0, .null, []) ::
  (47, .iload_n 2, 1, 0, 0, 0, .null, []) ::
  (48, .iconst (-1), 1, 0, 0, 0, .int (-1), []) ::
  (49, .iastore, 1, 0, 0, 0, .null, []) ::
  (50, .iconst 0, 1, 0, 0, 0, .int 0, []) ::
  (51, .istore_n 3, 1, 0, 0, 0, .null, []) ::
  (52, .iload_n 3, 1, 0, 0, 0, .null, [(0, 0)]) ::
  (53, .aload_n 0, 1, 0, 0, 0, .null, []) ::
  (54, .getfield 23, 3, 2, 3, 0, .null, []) ::
  (57, .if_icmp .ge 27, 3, 84, 0, 0, .null, []) ::
  (60, .aload_n 0, 1, 0, 0, 0, .null, []) ::
  (61, .getfield 11, 3, 2, 0, 2, .null, []) ::
  (64, .iload_n 3, 1, 0, 0, 0, .null, []) ::
  (65, .aaload, 1, 19, 0, 0, .null, []) ::
  (66, .iload_n 2, 1, 0, 0, 0, .null, []) ::
  (67, .aload_n 1, 1, 0, 0, 0, .null, []) ::
  (68, .getfield 58, 3, 8, 2, 2, .null, []) ::
  (71, .iload_n 2, 1, 0, 0, 0, .null, []) ::
  (72, .iaload, 1, 0, 0, 0, .null, []) ::
  (73, .iload_n 3, 1, 0, 0, 0, .null, []) ::
  (74, .ishr, 1, 0, 0, 0, .null, []) ::
  (75, .iconst 1, 1, 0, 0, 0, .int 1, []) ::
  (76, .iand, 1, 0, 0, 0, .null, []) ::
  (77, .iastore, 1, 0, 0, 0, .null, []) :: am_c_Pa_begin_1
def am_c_Pa_entering : List am_E := [(0, .iconst (-1), 1, 0, 0, 0, .int (-1), []),
  (1, .istore_n 1, 1, 0, 0, 0, .null, []),
  (2, .iconst 0, 1, 0, 0, 0, .int 0, []),
  (3, .istore_n 2, 1, 0, 0, 0, .null, []),
  (4, .iload_n 2, 1, 0, 0, 0, .null, [(0, 0)]),
  (5, .aload_n 0, 1, 0, 0, 0, .null, []),
  (6, .getfield 27, 3, 2, 4, 0, .null, []),
  (9, .if_icmp .ge 44, 3, 53, 0, 0, .null, []),
  (12, .aload_n 0, 1, 0, 0, 0, .null, []),
  (13, .getfield 11, 3, 2, 0, 2, .null, []),
  (16, .aload_n 0, 1, 0, 0, 0, .null, []),
  (17, .getfield 23, 3, 2, 3, 0, .null, []),
  (20, .aaload, 1, 19, 0, 0, .null, []),
  (21, .iload_n 2, 1, 0, 0, 0, .null, []),
  (22, .iaload, 1, 0, 0, 0, .null, []),
  (23, .ifCond .ge 24, 3, 47, 0, 0, .null, []),
  (26, .iload_n 1, 1, 0, 0, 0, .null, []),
  (27, .ifCond .lt 18, 3, 45, 0, 0, .null, []),
  (30, .aload_n 0, 1, 0, 0, 0, .null, []),
  (31, .getfield 20, 3, 2, 2, 2, .null, []),
  (34, .iload_n 2, 1, 0, 0, 0, .null, []),
  (35, .iaload, 1, 0, 0, 0, .null, []),
  (36, .aload_n 0, 1, 0, 0, 0, .null, []),
  (37, .getfield 20, 3, 2, 2, 2, .null, []),
  (40, .iload_n 1, 1, 0, 0, 0, .null, []),
  (41, .iaload, 1, 0, 0, 0, .null, []),
  (42, .if_icmp .ge 5, 3, 47, 0, 0, .null, []),
  (45, .iload_n 2, 1, 0, 0, 0, .null, []),
  (46, .istore_n 1, 1, 0, 0, 0, .null, []),
  (47, .iinc 2 1, 3, 0, 0, 0, .int 1, []),
  (50, .goto (-46), 3, 4, 0, 0, .null, []),
  (53, .iload_n 1, 1, 0, 0, 0, .null, []),
  (54, .ireturn, 1, 0, 0, 0, .null, [])]
def am_c_Pa_leaving : List am_E := [(0, .iconst (-1), 1, 0, 0, 0, .int (-1), []),
  (1, .istore_n 2, 1, 0, 0, 0, .null, []),
  (2, .iconst 0, 1, 0, 0, 0, .int 0, []),
  (3, .istore_n 3, 1, 0, 0, 0, .null, []),
  (4, .iload_n 3, 1, 0, 0, 0, .null, [(0, 0)]),
  (5, .aload_n 0, 1, 0, 0, 0, .null, []),
  (6, .getfield 23, 3, 2, 3, 0, .null, []),
  (9, .if_icmp .ge 36, 3, 45, 0, 0, .null, []),
  (12, .aload_n 0, 1, 0, 0, 0, .null, []),
  (13, .getfield 11, 3, 2, 0, 2, .null, []),
  (16, .iload_n 3, 1, 0, 0, 0, .null, []),
  (17, .aaload, 1, 19, 0, 0, .null, []),
  (18, .iload_n 1, 1, 0, 0, 0, .null, []),
  (19, .iaload, 1, 0, 0, 0, .null, []),
  (20, .ifCond .le 19, 3, 39, 0, 0, .null, []),
  (23, .iload_n 2, 1, 0, 0, 0, .null, []),
  (24, .ifCond .lt 13, 3, 37, 0, 0, .null, []),
  (27, .aload_n 0, 1, 0, 0, 0, .null, []),
  (28, .iload_n 3, 1, 0, 0, 0, .null, []),
  (29, .iload_n 2, 1, 0, 0, 0, .null, []),
  (30, .iload_n 1, 1, 0, 0, 0, .null, []),
  (31, .invokevirtual 61, 3, 20, 3, 4, .null, []),
  (34, .ifCond .eq 5, 3, 39, 0, 0, .null, []),
  (37, .iload_n 3, 1, 0, 0, 0, .null, []),
  (38, .istore_n 2, 1, 0, 0, 0, .null, []),
  (39, .iinc 3 1, 3, 0, 0, 0, .int 1, []),
  (42, .goto (-38), 3, 4, 0, 0, .null, []),
  (45, .iload_n 2, 1, 0, 0, 0, .null, []),
  (46, .ireturn, 1, 0, 0, 0, .null, [])]
def am_c_Pa_isAhead : List am_E := [(0, .aload_n 0, 1, 0, 0, 0, .null, []),
  (1, .getfield 11, 3, 2, 0, 2, .null, []),
  (4, .iload_n 1, 1, 0, 0, 0, .null, []),
  (5, .aaload, 1, 19, 0, 0, .null, []),
  (6, .aload_n 0, 1, 0, 0, 0, .null, []),
  (7, .getfield 27, 3, 2, 4, 0, .null, []),
  (10, .iaload, 1, 0, 0, 0, .null, []),
  (11, .aload_n 0, 1, 0, 0, 0, .null, []),
  (12, .getfield 11, 3, 2, 0, 2, .null, []),
  (15, .iload_n 2, 1, 0, 0, 0, .null, []),
  (16, .aaload, 1, 19, 0, 0, .null, []),
  (17, .iload_n 3, 1, 0, 0, 0, .null, []),
  (18, .iaload, 1, 0, 0, 0, .null, []),
  (19, .imul, 1, 0, 0, 0, .null, []),
  (20, .istore 4, 2, 0, 0, 0, .null, []),
  (22, .aload_n 0, 1, 0, 0, 0, .null, []),
  (23, .getfield 11, 3, 2, 0, 2, .null, []),
  (26, .iload_n 2, 1, 0, 0, 0, .null, []),
  (27, .aaload, 1, 19, 0, 0, .null, []),
  (28, .aload_n 0, 1, 0, 0, 0, .null, []),
  (29, .getfield 27, 3, 2, 4, 0, .null, []),
  (32, .iaload, 1, 0, 0, 0, .null, []),
  (33, .aload_n 0, 1, 0, 0, 0, .null, []),
  (34, .getfield 11, 3, 2, 0, 2, .null, []),
  (37, .iload_n 1, 1, 0, 0, 0, .null, []),
  (38, .aaload, 1, 19, 0, 0, .null, []),
  (39, .iload_n 3, 1, 0, 0, 0, .null, []),
  (40, .iaload, 1, 0, 0, 0, .null, []),
  (41, .imul, 1, 0, 0, 0, .null, []),
  (42, .istore 5, 2, 0, 0, 0, .null, []),
  (44, .iload 4, 2, 0, 0, 0, .null, []),
  (46, .iload 5, 2, 0, 0, 0, .null, []),
  (48, .if_icmp .lt 25, 3, 73, 0, 0, .null, []),
  (51, .iload 4, 2, 0, 0, 0, .null, []),
  (53, .iload 5, 2, 0, 0, 0, .null, []),
  (55, .if_icmp .ne 22, 3, 77, 0, 0, .null, []),
  (58, .aload_n 0, 1, 0, 0, 0, .null, []),
  (59, .getfield 16, 3, 2, 1, 2, .null, []),
  (62, .iload_n 1, 1, 0, 0, 0, .null, []),
  (63, .iaload, 1, 0, 0, 0, .null, []),
  (64, .aload_n 0, 1, 0, 0, 0, .null, []),
  (65, .getfield 16, 3, 2, 1, 2, .null, []),
  (68, .iload_n 2, 1, 0, 0, 0, .null, []),
  (69, .iaload, 1, 0, 0, 0, .null, []),
  (70, .if_icmp .ge 7, 3, 77, 0, 0, .null, []),
  (73, .iconst 1, 1, 0, 0, 0, .int 1, []),
  (74, .goto 4, 3, 78, 0, 0, .null, []),
  (77, .iconst 0, 1, 0, 0, 0, .int 0, []),
  (78, .ireturn, 1, 0, 0, 0, .null, [])]
def am_c_Pa_pivot_1 : List am_E := [(83, .iload 4, 2, 0, 0, 0, .null, []),
  (85, .iastore, 1, 0, 0, 0, .null, []),
  (86, .return_, 1, 0, 0, 0, .null, [])]
def am_c_Pa_pivot : List am_E := (0, .aload_n 0, 1, 0, 0, 0, .null, []) ::
  (1, .getfield 11, 3, 2, 0, 2, .null, []) ::
  (4, .iload_n 1, 1, 0, 0, 0, .null, []) ::
  (5, .aaload, 1, 19, 0, 0, .null, []) ::
  (6, .iload_n 2, 1, 0, 0, 0, .null, []) ::
  (7, .iaload, 1, 0, 0, 0, .null, []) ::
  (8, .istore_n 3, 1, 0, 0, 0, .null, []) ::
  (9, .iconst 0, 1, 0, 0, 0, .int 0, []) ::
  (10, .istore 4, 2, 0, 0, 0, .null, []) ::
  (12, .iload 4, 2, 0, 0, 0, .null, [(0, 0)]) ::
  (14, .aload_n 0, 1, 0, 0, 0, .null, []) ::
  (15, .getfield 23, 3, 2, 3, 0, .null, []) ::
  (18, .if_icmp .gt 23, 3, 41, 0, 0, .null, []) ::
  (21, .iload 4, 2, 0, 0, 0, .null, []) ::
  (23, .iload_n 1, 1, 0, 0, 0, .null, []) ::
  (24, .if_icmp .eq 11, 3, 35, 0, 0, .null, []) ::
  (27, .aload_n 0, 1, 0, 0, 0, .null, []) ::
  (28, .iload 4, 2, 0, 0, 0, .null, []) ::
  (30, .iload_n 1, 1, 0, 0, 0, .null, []) ::
  (31, .iload_n 2, 1, 0, 0, 0, .null, []) ::
  (32, .invokevirtual 65, 3, 22, 3, 4, .null, []) ::
  (35, .iinc 4 1, 3, 0, 0, 0, .int 1, []) ::
  (38, .goto (-26), 3, 12, 0, 0, .null, []) ::
  (41, .aload_n 0, 1, 0, 0, 0, .null, []) ::
  (42, .getfield 11, 3, 2, 0, 2, .null, []) ::
  (45, .iload_n 1, 1, 0, 0, 0, .null, []) ::
  (46, .aaload, 1, 19, 0, 0, .null, []) ::
  (47, .iload_n 2, 1, 0, 0, 0, .null, []) ::
  (48, .aload_n 0, 1, 0, 0, 0, .null, []) ::
  (49, .getfield 30, 3, 2, 5, 0, .null, []) ::
  (52, .iastore, 1, 0, 0, 0, .null, []) ::
  (53, .aload_n 0, 1, 0, 0, 0, .null, []) ::
  (54, .iload_n 3, 1, 0, 0, 0, .null, []) ::
  (55, .putfield 30, 3, 2, 5, 0, .null, []) ::
  (58, .aload_n 0, 1, 0, 0, 0, .null, []) ::
  (59, .getfield 16, 3, 2, 1, 2, .null, []) ::
  (62, .iload_n 1, 1, 0, 0, 0, .null, []) ::
  (63, .iaload, 1, 0, 0, 0, .null, []) ::
  (64, .istore 4, 2, 0, 0, 0, .null, []) ::
  (66, .aload_n 0, 1, 0, 0, 0, .null, []) ::
  (67, .getfield 16, 3, 2, 1, 2, .null, []) ::
  (70, .iload_n 1, 1, 0, 0, 0, .null, []) ::
  (71, .aload_n 0, 1, 0, 0, 0, .null, []) ::
  (72, .getfield 20, 3, 2, 2, 2, .null, []) ::
  (75, .iload_n 2, 1, 0, 0, 0, .null, []) ::
  (76, .iaload, 1, 0, 0, 0, .null, []) ::
  (77, .iastore, 1, 0, 0, 0, .null, []) ::
  (78, .aload_n 0, 1, 0, 0, 0, .null, []) ::
  (79, .getfield 20, 3, 2, 2, 2, .null, []) ::
  (82, .iload_n 2, 1, 0, 0, 0, .null, []) :: am_c_Pa_pivot_1
def am_c_Pa_clearBy_1 : List am_E := [(82, .idiv, 1, 0, 0, 0, .null, []),
  (83, .iastore, 1, 0, 0, 0, .null, []),
  (84, .iinc 6 1, 3, 0, 0, 0, .int 1, []),
  (87, .goto (-64), 3, 23, 0, 0, .null, []),
  (90, .aload_n 0, 1, 0, 0, 0, .null, []),
  (91, .getfield 11, 3, 2, 0, 2, .null, []),
  (94, .iload_n 1, 1, 0, 0, 0, .null, []),
  (95, .aaload, 1, 19, 0, 0, .null, []),
  (96, .iload_n 3, 1, 0, 0, 0, .null, []),
  (97, .iload 5, 2, 0, 0, 0, .null, []),
  (99, .ineg, 1, 0, 0, 0, .null, []),
  (100, .iastore, 1, 0, 0, 0, .null, []),
  (101, .return_, 1, 0, 0, 0, .null, [])]
def am_c_Pa_clearBy : List am_E := (0, .aload_n 0, 1, 0, 0, 0, .null, []) ::
  (1, .getfield 11, 3, 2, 0, 2, .null, []) ::
  (4, .iload_n 2, 1, 0, 0, 0, .null, []) ::
  (5, .aaload, 1, 19, 0, 0, .null, []) ::
  (6, .iload_n 3, 1, 0, 0, 0, .null, []) ::
  (7, .iaload, 1, 0, 0, 0, .null, []) ::
  (8, .istore 4, 2, 0, 0, 0, .null, []) ::
  (10, .aload_n 0, 1, 0, 0, 0, .null, []) ::
  (11, .getfield 11, 3, 2, 0, 2, .null, []) ::
  (14, .iload_n 1, 1, 0, 0, 0, .null, []) ::
  (15, .aaload, 1, 19, 0, 0, .null, []) ::
  (16, .iload_n 3, 1, 0, 0, 0, .null, []) ::
  (17, .iaload, 1, 0, 0, 0, .null, []) ::
  (18, .istore 5, 2, 0, 0, 0, .null, []) ::
  (20, .iconst 0, 1, 0, 0, 0, .int 0, []) ::
  (21, .istore 6, 2, 0, 0, 0, .null, []) ::
  (23, .iload 6, 2, 0, 0, 0, .null, [(0, 0)]) ::
  (25, .aload_n 0, 1, 0, 0, 0, .null, []) ::
  (26, .getfield 27, 3, 2, 4, 0, .null, []) ::
  (29, .if_icmp .gt 61, 3, 90, 0, 0, .null, []) ::
  (32, .iload 6, 2, 0, 0, 0, .null, []) ::
  (34, .iload_n 3, 1, 0, 0, 0, .null, []) ::
  (35, .if_icmp .eq 49, 3, 84, 0, 0, .null, []) ::
  (38, .aload_n 0, 1, 0, 0, 0, .null, []) ::
  (39, .getfield 30, 3, 2, 5, 0, .null, []) ::
  (42, .ifCond .eq 42, 3, 84, 0, 0, .null, []) ::
  (45, .aload_n 0, 1, 0, 0, 0, .null, []) ::
  (46, .getfield 11, 3, 2, 0, 2, .null, []) ::
  (49, .iload_n 1, 1, 0, 0, 0, .null, []) ::
  (50, .aaload, 1, 19, 0, 0, .null, []) ::
  (51, .iload 6, 2, 0, 0, 0, .null, []) ::
  (53, .aload_n 0, 1, 0, 0, 0, .null, []) ::
  (54, .getfield 11, 3, 2, 0, 2, .null, []) ::
  (57, .iload_n 1, 1, 0, 0, 0, .null, []) ::
  (58, .aaload, 1, 19, 0, 0, .null, []) ::
  (59, .iload 6, 2, 0, 0, 0, .null, []) ::
  (61, .iaload, 1, 0, 0, 0, .null, []) ::
  (62, .iload 4, 2, 0, 0, 0, .null, []) ::
  (64, .imul, 1, 0, 0, 0, .null, []) ::
  (65, .iload 5, 2, 0, 0, 0, .null, []) ::
  (67, .aload_n 0, 1, 0, 0, 0, .null, []) ::
  (68, .getfield 11, 3, 2, 0, 2, .null, []) ::
  (71, .iload_n 2, 1, 0, 0, 0, .null, []) ::
  (72, .aaload, 1, 19, 0, 0, .null, []) ::
  (73, .iload 6, 2, 0, 0, 0, .null, []) ::
  (75, .iaload, 1, 0, 0, 0, .null, []) ::
  (76, .imul, 1, 0, 0, 0, .null, []) ::
  (77, .isub, 1, 0, 0, 0, .null, []) ::
  (78, .aload_n 0, 1, 0, 0, 0, .null, []) ::
  (79, .getfield 30, 3, 2, 5, 0, .null, []) :: am_c_Pa_clearBy_1
def am_c_Pl_init : List am_E := [(0, .aload_n 0, 1, 0, 0, 0, .null, []),
  (1, .invokespecial 3, 3, 0, 0, 1, .null, []),
  (4, .aload_n 0, 1, 0, 0, 0, .null, []),
  (5, .iconst 0, 1, 0, 0, 0, .int 0, []),
  (6, .putfield 9, 3, 3, 0, 0, .null, []),
  (9, .aload_n 0, 1, 0, 0, 0, .null, []),
  (10, .iconst 4, 1, 0, 0, 0, .int 4, []),
  (11, .newarray .int, 2, 14, 0, 0, .null, []),
  (13, .putfield 15, 3, 3, 1, 2, .null, []),
  (16, .aload_n 0, 1, 0, 0, 0, .null, []),
  (17, .iconst 4, 1, 0, 0, 0, .int 4, []),
  (18, .bipush 12, 2, 0, 0, 0, .int 12, []),
  (20, .multianewarray 19 2, 4, 19, 0, 0, .null, []),
  (24, .putfield 21, 3, 3, 2, 2, .null, []),
  (27, .aload_n 0, 1, 0, 0, 0, .null, []),
  (28, .iconst 4, 1, 0, 0, 0, .int 4, []),
  (29, .bipush 12, 2, 0, 0, 0, .int 12, []),
  (31, .multianewarray 19 2, 4, 19, 0, 0, .null, []),
  (35, .putfield 24, 3, 3, 3, 2, .null, []),
  (38, .return_, 1, 0, 0, 0, .null, [])]
def am_c_Pl_becomeAll : List am_E := [(0, .aload_n 0, 1, 0, 0, 0, .null, []),
  (1, .aload_n 1, 1, 0, 0, 0, .null, []),
  (2, .getfield 9, 3, 3, 0, 0, .null, []),
  (5, .putfield 9, 3, 3, 0, 0, .null, []),
  (8, .iconst 0, 1, 0, 0, 0, .int 0, []),
  (9, .istore_n 2, 1, 0, 0, 0, .null, []),
  (10, .iload_n 2, 1, 0, 0, 0, .null, [(0, 0)]),
  (11, .iconst 4, 1, 0, 0, 0, .int 4, []),
  (12, .if_icmp .ge 16, 3, 28, 0, 0, .null, []),
  (15, .aload_n 0, 1, 0, 0, 0, .null, []),
  (16, .iload_n 2, 1, 0, 0, 0, .null, []),
  (17, .aload_n 1, 1, 0, 0, 0, .null, []),
  (18, .iload_n 2, 1, 0, 0, 0, .null, []),
  (19, .invokevirtual 27, 3, 25, 3, 5, .null, []),
  (22, .iinc 2 1, 3, 0, 0, 0, .int 1, []),
  (25, .goto (-15), 3, 10, 0, 0, .null, []),
  (28, .return_, 1, 0, 0, 0, .null, [])]
def am_c_Pl_moveIn : List am_E := [(0, .aload_n 0, 1, 0, 0, 0, .null, []),
  (1, .getfield 15, 3, 3, 1, 2, .null, []),
  (4, .iload_n 1, 1, 0, 0, 0, .null, []),
  (5, .aload_n 2, 1, 0, 0, 0, .null, []),
  (6, .getfield 15, 3, 3, 1, 2, .null, []),
  (9, .iload_n 3, 1, 0, 0, 0, .null, []),
  (10, .iaload, 1, 0, 0, 0, .null, []),
  (11, .iastore, 1, 0, 0, 0, .null, []),
  (12, .aload_n 2, 1, 0, 0, 0, .null, []),
  (13, .getfield 21, 3, 3, 2, 2, .null, []),
  (16, .iload_n 3, 1, 0, 0, 0, .null, []),
  (17, .aaload, 1, 19, 0, 0, .null, []),
  (18, .iconst 0, 1, 0, 0, 0, .int 0, []),
  (19, .aload_n 0, 1, 0, 0, 0, .null, []),
  (20, .getfield 21, 3, 3, 2, 2, .null, []),
  (23, .iload_n 1, 1, 0, 0, 0, .null, []),
  (24, .aaload, 1, 19, 0, 0, .null, []),
  (25, .iconst 0, 1, 0, 0, 0, .int 0, []),
  (26, .bipush 12, 2, 0, 0, 0, .int 12, []),
  (28, .invokestatic 31, 3, 0, 5, 1, .null, []),
  (31, .aload_n 2, 1, 0, 0, 0, .null, []),
  (32, .getfield 24, 3, 3, 3, 2, .null, []),
  (35, .iload_n 3, 1, 0, 0, 0, .null, []),
  (36, .aaload, 1, 19, 0, 0, .null, []),
  (37, .iconst 0, 1, 0, 0, 0, .int 0, []),
  (38, .aload_n 0, 1, 0, 0, 0, .null, []),
  (39, .getfield 24, 3, 3, 3, 2, .null, []),
  (42, .iload_n 1, 1, 0, 0, 0, .null, []),
  (43, .aaload, 1, 19, 0, 0, .null, []),
  (44, .iconst 0, 1, 0, 0, 0, .int 0, []),
  (45, .bipush 12, 2, 0, 0, 0, .int 12, []),
  (47, .invokestatic 31, 3, 0, 5, 1, .null, []),
  (50, .return_, 1, 0, 0, 0, .null, [])]
def am_c_Pl_placeOf : List am_E := [(0, .iconst 0, 1, 0, 0, 0, .int 0, []),
  (1, .istore_n 2, 1, 0, 0, 0, .null, []),
  (2, .iload_n 2, 1, 0, 0, 0, .null, [(0, 0)]),
  (3, .aload_n 0, 1, 0, 0, 0, .null, []),
  (4, .getfield 9, 3, 3, 0, 0, .null, []),
  (7, .if_icmp .ge 21, 3, 28, 0, 0, .null, []),
  (10, .aload_n 0, 1, 0, 0, 0, .null, []),
  (11, .getfield 15, 3, 3, 1, 2, .null, []),
  (14, .iload_n 2, 1, 0, 0, 0, .null, []),
  (15, .iaload, 1, 0, 0, 0, .null, []),
  (16, .iload_n 1, 1, 0, 0, 0, .null, []),
  (17, .if_icmp .ne 5, 3, 22, 0, 0, .null, []),
  (20, .iload_n 2, 1, 0, 0, 0, .null, []),
  (21, .ireturn, 1, 0, 0, 0, .null, []),
  (22, .iinc 2 1, 3, 0, 0, 0, .int 1, []),
  (25, .goto (-23), 3, 2, 0, 0, .null, []),
  (28, .iconst (-1), 1, 0, 0, 0, .int (-1), []),
  (29, .ireturn, 1, 0, 0, 0, .null, [])]
def am_c_Pl_become_1 : List am_E := [(95, .iload 5, 2, 0, 0, 0, .null, []),
  (97, .iload 5, 2, 0, 0, 0, .null, []),
  (99, .aload_n 2, 1, 0, 0, 0, .null, []),
  (100, .getfield 45, 3, 8, 1, 0, .null, []),
  (103, .if_icmp .ge 13, 3, 116, 0, 0, .null, []),
  (106, .aload_n 3, 1, 0, 0, 0, .null, []),
  (107, .getfield 53, 3, 6, 0, 2, .null, []),
  (110, .iload 5, 2, 0, 0, 0, .null, []),
  (112, .iaload, 1, 0, 0, 0, .null, []),
  (113, .goto 4, 3, 117, 0, 0, .null, []),
  (116, .iconst 0, 1, 0, 0, 0, .int 0, []),
  (117, .iastore, 1, 0, 0, 0, .null, []),
  (118, .iinc 5 1, 3, 0, 0, 0, .int 1, []),
  (121, .goto (-74), 3, 47, 0, 0, .null, []),
  (124, .aload_n 0, 1, 0, 0, 0, .null, []),
  (125, .dup, 1, 0, 0, 0, .null, []),
  (126, .getfield 9, 3, 3, 0, 0, .null, []),
  (129, .iconst 1, 1, 0, 0, 0, .int 1, []),
  (130, .iadd, 1, 0, 0, 0, .null, []),
  (131, .putfield 9, 3, 3, 0, 0, .null, []),
  (134, .return_, 1, 0, 0, 0, .null, [])]
def am_c_Pl_become : List am_E := (0, .aload_n 0, 1, 0, 0, 0, .null, []) ::
  (1, .iload_n 1, 1, 0, 0, 0, .null, []) ::
  (2, .invokevirtual 37, 3, 26, 1, 5, .null, []) ::
  (5, .istore 4, 2, 0, 0, 0, .null, []) ::
  (7, .iload 4, 2, 0, 0, 0, .null, []) ::
  (9, .ifCond .lt 12, 3, 21, 0, 0, .null, []) ::
  (12, .aload_n 0, 1, 0, 0, 0, .null, []) ::
  (13, .iload 4, 2, 0, 0, 0, .null, []) ::
  (15, .invokevirtual 41, 3, 28, 1, 5, .null, []) ::
  (18, .goto 16, 3, 34, 0, 0, .null, []) ::
  (21, .aload_n 0, 1, 0, 0, 0, .null, []) ::
  (22, .getfield 9, 3, 3, 0, 0, .null, []) ::
  (25, .iconst 4, 1, 0, 0, 0, .int 4, []) ::
  (26, .if_icmp .lt 8, 3, 34, 0, 0, .null, []) ::
  (29, .aload_n 0, 1, 0, 0, 0, .null, []) ::
  (30, .iconst 0, 1, 0, 0, 0, .int 0, []) ::
  (31, .invokevirtual 41, 3, 28, 1, 5, .null, []) ::
  (34, .aload_n 0, 1, 0, 0, 0, .null, []) ::
  (35, .getfield 15, 3, 3, 1, 2, .null, []) ::
  (38, .aload_n 0, 1, 0, 0, 0, .null, []) ::
  (39, .getfield 9, 3, 3, 0, 0, .null, []) ::
  (42, .iload_n 1, 1, 0, 0, 0, .null, []) ::
  (43, .iastore, 1, 0, 0, 0, .null, []) ::
  (44, .iconst 0, 1, 0, 0, 0, .int 0, []) ::
  (45, .istore 5, 2, 0, 0, 0, .null, []) ::
  (47, .iload 5, 2, 0, 0, 0, .null, [(0, 0)]) ::
  (49, .bipush 12, 2, 0, 0, 0, .int 12, []) ::
  (51, .if_icmp .ge 73, 3, 124, 0, 0, .null, []) ::
  (54, .aload_n 0, 1, 0, 0, 0, .null, []) ::
  (55, .getfield 21, 3, 3, 2, 2, .null, []) ::
  (58, .aload_n 0, 1, 0, 0, 0, .null, []) ::
  (59, .getfield 9, 3, 3, 0, 0, .null, []) ::
  (62, .aaload, 1, 19, 0, 0, .null, []) ::
  (63, .iload 5, 2, 0, 0, 0, .null, []) ::
  (65, .iload 5, 2, 0, 0, 0, .null, []) ::
  (67, .aload_n 2, 1, 0, 0, 0, .null, []) ::
  (68, .getfield 45, 3, 8, 1, 0, .null, []) ::
  (71, .if_icmp .ge 13, 3, 84, 0, 0, .null, []) ::
  (74, .aload_n 2, 1, 0, 0, 0, .null, []) ::
  (75, .getfield 50, 3, 8, 2, 2, .null, []) ::
  (78, .iload 5, 2, 0, 0, 0, .null, []) ::
  (80, .iaload, 1, 0, 0, 0, .null, []) ::
  (81, .goto 4, 3, 85, 0, 0, .null, []) ::
  (84, .iconst 0, 1, 0, 0, 0, .int 0, []) ::
  (85, .iastore, 1, 0, 0, 0, .null, []) ::
  (86, .aload_n 0, 1, 0, 0, 0, .null, []) ::
  (87, .getfield 24, 3, 3, 3, 2, .null, []) ::
  (90, .aload_n 0, 1, 0, 0, 0, .null, []) ::
  (91, .getfield 9, 3, 3, 0, 0, .null, []) ::
  (94, .aaload, 1, 19, 0, 0, .null, []) :: am_c_Pl_become_1
def am_c_Pl_lose : List am_E := [(0, .iload_n 1, 1, 0, 0, 0, .null, []),
  (1, .iconst 1, 1, 0, 0, 0, .int 1, []),
  (2, .iadd, 1, 0, 0, 0, .null, []),
  (3, .istore_n 2, 1, 0, 0, 0, .null, []),
  (4, .iload_n 2, 1, 0, 0, 0, .null, [(0, 0)]),
  (5, .aload_n 0, 1, 0, 0, 0, .null, []),
  (6, .getfield 9, 3, 3, 0, 0, .null, []),
  (9, .if_icmp .ge 18, 3, 27, 0, 0, .null, []),
  (12, .aload_n 0, 1, 0, 0, 0, .null, []),
  (13, .iload_n 2, 1, 0, 0, 0, .null, []),
  (14, .iconst 1, 1, 0, 0, 0, .int 1, []),
  (15, .isub, 1, 0, 0, 0, .null, []),
  (16, .aload_n 0, 1, 0, 0, 0, .null, []),
  (17, .iload_n 2, 1, 0, 0, 0, .null, []),
  (18, .invokevirtual 27, 3, 25, 3, 5, .null, []),
  (21, .iinc 2 1, 3, 0, 0, 0, .int 1, []),
  (24, .goto (-20), 3, 4, 0, 0, .null, []),
  (27, .aload_n 0, 1, 0, 0, 0, .null, []),
  (28, .dup, 1, 0, 0, 0, .null, []),
  (29, .getfield 9, 3, 3, 0, 0, .null, []),
  (32, .iconst 1, 1, 0, 0, 0, .int 1, []),
  (33, .isub, 1, 0, 0, 0, .null, []),
  (34, .putfield 9, 3, 3, 0, 0, .null, []),
  (37, .return_, 1, 0, 0, 0, .null, [])]
def am_c_Pl_weightOn : List am_E := [(0, .iconst 0, 1, 0, 0, 0, .int 0, []),
  (1, .istore 4, 2, 0, 0, 0, .null, []),
  (3, .iconst 0, 1, 0, 0, 0, .int 0, []),
  (4, .istore 5, 2, 0, 0, 0, .null, []),
  (6, .iload 5, 2, 0, 0, 0, .null, [(0, 0)]),
  (8, .bipush 12, 2, 0, 0, 0, .int 12, []),
  (10, .if_icmp .ge 50, 3, 60, 0, 0, .null, []),
  (13, .aload_n 0, 1, 0, 0, 0, .null, []),
  (14, .getfield 21, 3, 3, 2, 2, .null, []),
  (17, .iload_n 1, 1, 0, 0, 0, .null, []),
  (18, .aaload, 1, 19, 0, 0, .null, []),
  (19, .iload 5, 2, 0, 0, 0, .null, []),
  (21, .iaload, 1, 0, 0, 0, .null, []),
  (22, .istore 6, 2, 0, 0, 0, .null, []),
  (24, .iload 6, 2, 0, 0, 0, .null, []),
  (26, .iload_n 3, 1, 0, 0, 0, .null, []),
  (27, .iand, 1, 0, 0, 0, .null, []),
  (28, .ifCond .eq 26, 3, 54, 0, 0, .null, []),
  (31, .aload_n 2, 1, 0, 0, 0, .null, []),
  (32, .iload 6, 2, 0, 0, 0, .null, []),
  (34, .invokevirtual 58, 3, 85, 1, 10, .null, []),
  (37, .ifCond .lt 17, 3, 54, 0, 0, .null, []),
  (40, .iload 4, 2, 0, 0, 0, .null, []),
  (42, .aload_n 0, 1, 0, 0, 0, .null, []),
  (43, .getfield 24, 3, 3, 3, 2, .null, []),
  (46, .iload_n 1, 1, 0, 0, 0, .null, []),
  (47, .aaload, 1, 19, 0, 0, .null, []),
  (48, .iload 5, 2, 0, 0, 0, .null, []),
  (50, .iaload, 1, 0, 0, 0, .null, []),
  (51, .iadd, 1, 0, 0, 0, .null, []),
  (52, .istore 4, 2, 0, 0, 0, .null, []),
  (54, .iinc 5 1, 3, 0, 0, 0, .int 1, []),
  (57, .goto (-51), 3, 6, 0, 0, .null, []),
  (60, .iload 4, 2, 0, 0, 0, .null, []),
  (62, .ireturn, 1, 0, 0, 0, .null, [])]
def am_c_Pl_greatestWeight : List am_E := [(0, .iconst 0, 1, 0, 0, 0, .int 0, []),
  (1, .istore_n 3, 1, 0, 0, 0, .null, []),
  (2, .iconst 0, 1, 0, 0, 0, .int 0, []),
  (3, .istore 4, 2, 0, 0, 0, .null, []),
  (5, .iload 4, 2, 0, 0, 0, .null, [(0, 0)]),
  (7, .aload_n 2, 1, 0, 0, 0, .null, []),
  (8, .getfield 59, 3, 8, 0, 0, .null, []),
  (11, .if_icmp .ge 24, 3, 35, 0, 0, .null, []),
  (14, .iload_n 3, 1, 0, 0, 0, .null, []),
  (15, .aload_n 0, 1, 0, 0, 0, .null, []),
  (16, .iload_n 1, 1, 0, 0, 0, .null, []),
  (17, .aload_n 2, 1, 0, 0, 0, .null, []),
  (18, .iconst 1, 1, 0, 0, 0, .int 1, []),
  (19, .iload 4, 2, 0, 0, 0, .null, []),
  (21, .ishl, 1, 0, 0, 0, .null, []),
  (22, .invokevirtual 62, 3, 29, 3, 5, .null, []),
  (25, .invokestatic 66, 3, 0, 2, 3, .null, []),
  (28, .istore_n 3, 1, 0, 0, 0, .null, []),
  (29, .iinc 4 1, 3, 0, 0, 0, .int 1, []),
  (32, .goto (-27), 3, 5, 0, 0, .null, []),
  (35, .iload_n 3, 1, 0, 0, 0, .null, []),
  (36, .ireturn, 1, 0, 0, 0, .null, [])]
def am_c_Pr_init_1 : List am_E := [(87, .goto (-27), 3, 60, 0, 0, .null, []),
  (90, .iload_n 1, 1, 0, 0, 0, .null, []),
  (91, .iconst 3, 1, 0, 0, 0, .int 3, []),
  (92, .imul, 1, 0, 0, 0, .null, []),
  (93, .istore_n 1, 1, 0, 0, 0, .null, []),
  (94, .iinc 2 1, 3, 0, 0, 0, .int 1, []),
  (97, .goto (-50), 3, 47, 0, 0, .null, []),
  (100, .return_, 1, 0, 0, 0, .null, [])]
def am_c_Pr_init : List am_E := (0, .aload_n 0, 1, 0, 0, 0, .null, []) ::
  (1, .invokespecial 3, 3, 0, 0, 1, .null, []) ::
  (4, .aload_n 0, 1, 0, 0, 0, .null, []) ::
  (5, .new 9, 3, 1, 0, 0, .null, []) ::
  (8, .dup, 1, 0, 0, 0, .null, []) ::
  (9, .invokespecial 11, 3, 6, 0, 2, .null, []) ::
  (12, .putfield 12, 3, 4, 0, 2, .null, []) ::
  (15, .aload_n 0, 1, 0, 0, 0, .null, []) ::
  (16, .sipush 128, 3, 0, 0, 0, .int 128, []) ::
  (19, .newarray .int, 2, 14, 0, 0, .null, []) ::
  (21, .putfield 18, 3, 4, 1, 2, .null, []) ::
  (24, .aload_n 0, 1, 0, 0, 0, .null, []) ::
  (25, .sipush 2187, 3, 0, 0, 0, .int 2187, []) ::
  (28, .newarray .byte, 2, 12, 0, 0, .null, []) ::
  (30, .putfield 22, 3, 4, 2, 2, .null, []) ::
  (33, .aload_n 0, 1, 0, 0, 0, .null, []) ::
  (34, .iconst 0, 1, 0, 0, 0, .int 0, []) ::
  (35, .putfield 26, 3, 4, 3, 0, .null, []) ::
  (38, .aload_n 0, 1, 0, 0, 0, .null, []) ::
  (39, .iconst 0, 1, 0, 0, 0, .int 0, []) ::
  (40, .putfield 30, 3, 4, 4, 0, .null, []) ::
  (43, .iconst 1, 1, 0, 0, 0, .int 1, []) ::
  (44, .istore_n 1, 1, 0, 0, 0, .null, []) ::
  (45, .iconst 0, 1, 0, 0, 0, .int 0, []) ::
  (46, .istore_n 2, 1, 0, 0, 0, .null, []) ::
  (47, .iload_n 2, 1, 0, 0, 0, .null, [(0, 0)]) ::
  (48, .bipush 7, 2, 0, 0, 0, .int 7, []) ::
  (50, .if_icmp .ge 50, 3, 100, 0, 0, .null, []) ::
  (53, .iconst 1, 1, 0, 0, 0, .int 1, []) ::
  (54, .iload_n 2, 1, 0, 0, 0, .null, []) ::
  (55, .ishl, 1, 0, 0, 0, .null, []) ::
  (56, .istore_n 3, 1, 0, 0, 0, .null, []) ::
  (57, .iconst 0, 1, 0, 0, 0, .int 0, []) ::
  (58, .istore 4, 2, 0, 0, 0, .null, []) ::
  (60, .iload 4, 2, 0, 0, 0, .null, [(0, 0)]) ::
  (62, .iload_n 3, 1, 0, 0, 0, .null, []) ::
  (63, .if_icmp .ge 27, 3, 90, 0, 0, .null, []) ::
  (66, .aload_n 0, 1, 0, 0, 0, .null, []) ::
  (67, .getfield 18, 3, 4, 1, 2, .null, []) ::
  (70, .iload_n 3, 1, 0, 0, 0, .null, []) ::
  (71, .iload 4, 2, 0, 0, 0, .null, []) ::
  (73, .ior, 1, 0, 0, 0, .null, []) ::
  (74, .iload_n 1, 1, 0, 0, 0, .null, []) ::
  (75, .aload_n 0, 1, 0, 0, 0, .null, []) ::
  (76, .getfield 18, 3, 4, 1, 2, .null, []) ::
  (79, .iload 4, 2, 0, 0, 0, .null, []) ::
  (81, .iaload, 1, 0, 0, 0, .null, []) ::
  (82, .iadd, 1, 0, 0, 0, .null, []) ::
  (83, .iastore, 1, 0, 0, 0, .null, []) ::
  (84, .iinc 4 1, 3, 0, 0, 0, .int 1, []) :: am_c_Pr_init_1
def am_c_Pr_play : List am_E := [(0, .aload_n 0, 1, 0, 0, 0, .null, []),
  (1, .getfield 12, 3, 4, 0, 2, .null, []),
  (4, .aload_n 1, 1, 0, 0, 0, .null, []),
  (5, .invokevirtual 33, 3, 7, 1, 3, .null, []),
  (8, .aload_n 0, 1, 0, 0, 0, .null, []),
  (9, .iload_n 2, 1, 0, 0, 0, .null, []),
  (10, .putfield 26, 3, 4, 3, 0, .null, []),
  (13, .aload_n 0, 1, 0, 0, 0, .null, []),
  (14, .iload_n 3, 1, 0, 0, 0, .null, []),
  (15, .putfield 30, 3, 4, 4, 0, .null, []),
  (18, .aload_n 0, 1, 0, 0, 0, .null, []),
  (19, .aload_n 0, 1, 0, 0, 0, .null, []),
  (20, .getfield 26, 3, 4, 3, 0, .null, []),
  (23, .aload_n 0, 1, 0, 0, 0, .null, []),
  (24, .getfield 30, 3, 4, 4, 0, .null, []),
  (27, .invokevirtual 37, 3, 35, 2, 6, .null, []),
  (30, .istore 4, 2, 0, 0, 0, .null, []),
  (32, .iload 4, 2, 0, 0, 0, .null, []),
  (34, .istore 5, 2, 0, 0, 0, .null, []),
  (36, .iload 5, 2, 0, 0, 0, .null, [(0, 0)]),
  (38, .ifCond .lt 32, 3, 70, 0, 0, .null, []),
  (41, .iload 5, 2, 0, 0, 0, .null, []),
  (43, .iload 4, 2, 0, 0, 0, .null, []),
  (45, .iconst (-1), 1, 0, 0, 0, .int (-1), []),
  (46, .ixor, 1, 0, 0, 0, .null, []),
  (47, .iand, 1, 0, 0, 0, .null, []),
  (48, .ifCond .ne 16, 3, 64, 0, 0, .null, []),
  (51, .aload_n 0, 1, 0, 0, 0, .null, []),
  (52, .iload 5, 2, 0, 0, 0, .null, []),
  (54, .iload 4, 2, 0, 0, 0, .null, []),
  (56, .iload 5, 2, 0, 0, 0, .null, []),
  (58, .iconst (-1), 1, 0, 0, 0, .int (-1), []),
  (59, .ixor, 1, 0, 0, 0, .null, []),
  (60, .iand, 1, 0, 0, 0, .null, []),
  (61, .invokevirtual 41, 3, 33, 2, 6, .null, []),
  (64, .iinc 5 (-1), 3, 0, 0, 0, .int (-1), []),
  (67, .goto (-31), 3, 36, 0, 0, .null, []),
  (70, .return_, 1, 0, 0, 0, .null, [])]
def am_c_Pr_playLost : List am_E := [(0, .iload_n 2, 1, 0, 0, 0, .null, []),
  (1, .istore_n 3, 1, 0, 0, 0, .null, []),
  (2, .iload_n 3, 1, 0, 0, 0, .null, [(0, 0)]),
  (3, .ifCond .lt 55, 3, 58, 0, 0, .null, []),
  (6, .iload_n 3, 1, 0, 0, 0, .null, []),
  (7, .iload_n 2, 1, 0, 0, 0, .null, []),
  (8, .iconst (-1), 1, 0, 0, 0, .int (-1), []),
  (9, .ixor, 1, 0, 0, 0, .null, []),
  (10, .iand, 1, 0, 0, 0, .null, []),
  (11, .ifCond .ne 41, 3, 52, 0, 0, .null, []),
  (14, .aload_n 0, 1, 0, 0, 0, .null, []),
  (15, .getfield 26, 3, 4, 3, 0, .null, []),
  (18, .iload_n 3, 1, 0, 0, 0, .null, []),
  (19, .ior, 1, 0, 0, 0, .null, []),
  (20, .istore 4, 2, 0, 0, 0, .null, []),
  (22, .aload_n 0, 1, 0, 0, 0, .null, []),
  (23, .getfield 30, 3, 4, 4, 0, .null, []),
  (26, .iload_n 1, 1, 0, 0, 0, .null, []),
  (27, .ior, 1, 0, 0, 0, .null, []),
  (28, .istore 5, 2, 0, 0, 0, .null, []),
  (30, .aload_n 0, 1, 0, 0, 0, .null, []),
  (31, .getfield 22, 3, 4, 2, 2, .null, []),
  (34, .aload_n 0, 1, 0, 0, 0, .null, []),
  (35, .iload 4, 2, 0, 0, 0, .null, []),
  (37, .iload 5, 2, 0, 0, 0, .null, []),
  (39, .invokevirtual 45, 3, 34, 2, 6, .null, []),
  (42, .aload_n 0, 1, 0, 0, 0, .null, []),
  (43, .iload 4, 2, 0, 0, 0, .null, []),
  (45, .iload 5, 2, 0, 0, 0, .null, []),
  (47, .invokevirtual 48, 3, 37, 2, 6, .null, []),
  (50, .i2b, 1, 0, 0, 0, .null, []),
  (51, .bastore, 1, 12, 0, 0, .null, []),
  (52, .iinc 3 (-1), 3, 0, 0, 0, .int (-1), []),
  (55, .goto (-53), 3, 2, 0, 0, .null, []),
  (58, .return_, 1, 0, 0, 0, .null, [])]
def am_c_Pr_placeOf : List am_E := [(0, .aload_n 0, 1, 0, 0, 0, .null, []),
  (1, .getfield 18, 3, 4, 1, 2, .null, []),
  (4, .iload_n 1, 1, 0, 0, 0, .null, []),
  (5, .iaload, 1, 0, 0, 0, .null, []),
  (6, .iconst 2, 1, 0, 0, 0, .int 2, []),
  (7, .aload_n 0, 1, 0, 0, 0, .null, []),
  (8, .getfield 18, 3, 4, 1, 2, .null, []),
  (11, .iload_n 2, 1, 0, 0, 0, .null, []),
  (12, .iaload, 1, 0, 0, 0, .null, []),
  (13, .imul, 1, 0, 0, 0, .null, []),
  (14, .iadd, 1, 0, 0, 0, .null, []),
  (15, .ireturn, 1, 0, 0, 0, .null, [])]
def am_c_Pr_openOf : List am_E := [(0, .aload_n 0, 1, 0, 0, 0, .null, []),
  (1, .getfield 12, 3, 4, 0, 2, .null, []),
  (4, .getfield 51, 3, 1, 0, 0, .null, []),
  (7, .iload_n 1, 1, 0, 0, 0, .null, []),
  (8, .iload_n 2, 1, 0, 0, 0, .null, []),
  (9, .ior, 1, 0, 0, 0, .null, []),
  (10, .iconst (-1), 1, 0, 0, 0, .int (-1), []),
  (11, .ixor, 1, 0, 0, 0, .null, []),
  (12, .iand, 1, 0, 0, 0, .null, []),
  (13, .ireturn, 1, 0, 0, 0, .null, [])]
def am_c_Pr_isOver : List am_E := [(0, .aload_n 0, 1, 0, 0, 0, .null, []),
  (1, .getfield 12, 3, 4, 0, 2, .null, []),
  (4, .getfield 54, 3, 1, 1, 2, .null, []),
  (7, .iload_n 1, 1, 0, 0, 0, .null, []),
  (8, .baload, 1, 16, 0, 0, .null, []),
  (9, .ifCond .ne 25, 3, 34, 0, 0, .null, []),
  (12, .aload_n 0, 1, 0, 0, 0, .null, []),
  (13, .getfield 12, 3, 4, 0, 2, .null, []),
  (16, .getfield 54, 3, 1, 1, 2, .null, []),
  (19, .aload_n 0, 1, 0, 0, 0, .null, []),
  (20, .getfield 12, 3, 4, 0, 2, .null, []),
  (23, .getfield 51, 3, 1, 0, 0, .null, []),
  (26, .iload_n 2, 1, 0, 0, 0, .null, []),
  (27, .iconst (-1), 1, 0, 0, 0, .int (-1), []),
  (28, .ixor, 1, 0, 0, 0, .null, []),
  (29, .iand, 1, 0, 0, 0, .null, []),
  (30, .baload, 1, 16, 0, 0, .null, []),
  (31, .ifCond .ne 7, 3, 38, 0, 0, .null, []),
  (34, .iconst 1, 1, 0, 0, 0, .int 1, []),
  (35, .goto 4, 3, 39, 0, 0, .null, []),
  (38, .iconst 0, 1, 0, 0, 0, .int 0, []),
  (39, .ireturn, 1, 0, 0, 0, .null, [])]
def am_c_Pr_probesFrom : List am_E := [(0, .aload_n 0, 1, 0, 0, 0, .null, []),
  (1, .iload_n 1, 1, 0, 0, 0, .null, []),
  (2, .iload_n 2, 1, 0, 0, 0, .null, []),
  (3, .invokevirtual 58, 3, 36, 2, 6, .null, []),
  (6, .ifCond .eq 5, 3, 11, 0, 0, .null, []),
  (9, .iconst 0, 1, 0, 0, 0, .int 0, []),
  (10, .ireturn, 1, 0, 0, 0, .null, []),
  (11, .aload_n 0, 1, 0, 0, 0, .null, []),
  (12, .iload_n 1, 1, 0, 0, 0, .null, []),
  (13, .iload_n 2, 1, 0, 0, 0, .null, []),
  (14, .invokevirtual 37, 3, 35, 2, 6, .null, []),
  (17, .istore_n 3, 1, 0, 0, 0, .null, []),
  (18, .bipush 7, 2, 0, 0, 0, .int 7, []),
  (20, .istore 4, 2, 0, 0, 0, .null, []),
  (22, .iconst 0, 1, 0, 0, 0, .int 0, []),
  (23, .istore 5, 2, 0, 0, 0, .null, []),
  (25, .iload 5, 2, 0, 0, 0, .null, [(0, 0)]),
  (27, .bipush 7, 2, 0, 0, 0, .int 7, []),
  (29, .if_icmp .ge 36, 3, 65, 0, 0, .null, []),
  (32, .iload_n 3, 1, 0, 0, 0, .null, []),
  (33, .iload 5, 2, 0, 0, 0, .null, []),
  (35, .ishr, 1, 0, 0, 0, .null, []),
  (36, .iconst 1, 1, 0, 0, 0, .int 1, []),
  (37, .iand, 1, 0, 0, 0, .null, []),
  (38, .iconst 1, 1, 0, 0, 0, .int 1, []),
  (39, .if_icmp .ne 20, 3, 59, 0, 0, .null, []),
  (42, .iload 4, 2, 0, 0, 0, .null, []),
  (44, .aload_n 0, 1, 0, 0, 0, .null, []),
  (45, .iload_n 1, 1, 0, 0, 0, .null, []),
  (46, .iload_n 2, 1, 0, 0, 0, .null, []),
  (47, .iconst 1, 1, 0, 0, 0, .int 1, []),
  (48, .iload 5, 2, 0, 0, 0, .null, []),
  (50, .ishl, 1, 0, 0, 0, .null, []),
  (51, .invokevirtual 62, 3, 38, 3, 6, .null, []),
  (54, .invokestatic 66, 3, 0, 2, 4, .null, []),
  (57, .istore 4, 2, 0, 0, 0, .null, []),
  (59, .iinc 5 1, 3, 0, 0, 0, .int 1, []),
  (62, .goto (-37), 3, 25, 0, 0, .null, []),
  (65, .iload 4, 2, 0, 0, 0, .null, []),
  (67, .ireturn, 1, 0, 0, 0, .null, [])]
def am_c_Pr_probesBy : List am_E := [(0, .iconst 1, 1, 0, 0, 0, .int 1, []),
  (1, .aload_n 0, 1, 0, 0, 0, .null, []),
  (2, .getfield 22, 3, 4, 2, 2, .null, []),
  (5, .aload_n 0, 1, 0, 0, 0, .null, []),
  (6, .iload_n 1, 1, 0, 0, 0, .null, []),
  (7, .iload_n 3, 1, 0, 0, 0, .null, []),
  (8, .ior, 1, 0, 0, 0, .null, []),
  (9, .iload_n 2, 1, 0, 0, 0, .null, []),
  (10, .invokevirtual 45, 3, 34, 2, 6, .null, []),
  (13, .baload, 1, 12, 0, 0, .null, []),
  (14, .aload_n 0, 1, 0, 0, 0, .null, []),
  (15, .getfield 22, 3, 4, 2, 2, .null, []),
  (18, .aload_n 0, 1, 0, 0, 0, .null, []),
  (19, .iload_n 1, 1, 0, 0, 0, .null, []),
  (20, .iload_n 2, 1, 0, 0, 0, .null, []),
  (21, .iload_n 3, 1, 0, 0, 0, .null, []),
  (22, .ior, 1, 0, 0, 0, .null, []),
  (23, .invokevirtual 45, 3, 34, 2, 6, .null, []),
  (26, .baload, 1, 12, 0, 0, .null, []),
  (27, .invokestatic 71, 3, 0, 2, 3, .null, []),
  (30, .iadd, 1, 0, 0, 0, .null, []),
  (31, .ireturn, 1, 0, 0, 0, .null, [])]
def am_c_Pr_worst : List am_E := [(0, .aload_n 0, 1, 0, 0, 0, .null, []),
  (1, .getfield 22, 3, 4, 2, 2, .null, []),
  (4, .aload_n 0, 1, 0, 0, 0, .null, []),
  (5, .aload_n 0, 1, 0, 0, 0, .null, []),
  (6, .getfield 26, 3, 4, 3, 0, .null, []),
  (9, .aload_n 0, 1, 0, 0, 0, .null, []),
  (10, .getfield 30, 3, 4, 4, 0, .null, []),
  (13, .invokevirtual 45, 3, 34, 2, 6, .null, []),
  (16, .baload, 1, 12, 0, 0, .null, []),
  (17, .ireturn, 1, 0, 0, 0, .null, [])]
def am_c_Pr_best : List am_E := [(0, .aload_n 0, 1, 0, 0, 0, .null, []),
  (1, .aload_n 0, 1, 0, 0, 0, .null, []),
  (2, .getfield 26, 3, 4, 3, 0, .null, []),
  (5, .aload_n 0, 1, 0, 0, 0, .null, []),
  (6, .getfield 30, 3, 4, 4, 0, .null, []),
  (9, .invokevirtual 37, 3, 35, 2, 6, .null, []),
  (12, .istore_n 1, 1, 0, 0, 0, .null, []),
  (13, .aload_n 0, 1, 0, 0, 0, .null, []),
  (14, .aload_n 0, 1, 0, 0, 0, .null, []),
  (15, .getfield 26, 3, 4, 3, 0, .null, []),
  (18, .aload_n 0, 1, 0, 0, 0, .null, []),
  (19, .getfield 30, 3, 4, 4, 0, .null, []),
  (22, .invokevirtual 58, 3, 36, 2, 6, .null, []),
  (25, .ifCond .eq 6, 3, 31, 0, 0, .null, []),
  (28, .bipush (-4), 2, 0, 0, 0, .int (-4), []),
  (30, .ireturn, 1, 0, 0, 0, .null, []),
  (31, .iconst 0, 1, 0, 0, 0, .int 0, []),
  (32, .istore_n 2, 1, 0, 0, 0, .null, []),
  (33, .iload_n 2, 1, 0, 0, 0, .null, [(0, 0)]),
  (34, .bipush 7, 2, 0, 0, 0, .int 7, []),
  (36, .if_icmp .ge 42, 3, 78, 0, 0, .null, []),
  (39, .iload_n 1, 1, 0, 0, 0, .null, []),
  (40, .iload_n 2, 1, 0, 0, 0, .null, []),
  (41, .ishr, 1, 0, 0, 0, .null, []),
  (42, .iconst 1, 1, 0, 0, 0, .int 1, []),
  (43, .iand, 1, 0, 0, 0, .null, []),
  (44, .iconst 1, 1, 0, 0, 0, .int 1, []),
  (45, .if_icmp .ne 27, 3, 72, 0, 0, .null, []),
  (48, .aload_n 0, 1, 0, 0, 0, .null, []),
  (49, .aload_n 0, 1, 0, 0, 0, .null, []),
  (50, .getfield 26, 3, 4, 3, 0, .null, []),
  (53, .aload_n 0, 1, 0, 0, 0, .null, []),
  (54, .getfield 30, 3, 4, 4, 0, .null, []),
  (57, .iconst 1, 1, 0, 0, 0, .int 1, []),
  (58, .iload_n 2, 1, 0, 0, 0, .null, []),
  (59, .ishl, 1, 0, 0, 0, .null, []),
  (60, .invokevirtual 62, 3, 38, 3, 6, .null, []),
  (63, .aload_n 0, 1, 0, 0, 0, .null, []),
  (64, .invokevirtual 74, 3, 39, 0, 6, .null, []),
  (67, .if_icmp .ne 5, 3, 72, 0, 0, .null, []),
  (70, .iload_n 2, 1, 0, 0, 0, .null, []),
  (71, .ireturn, 1, 0, 0, 0, .null, []),
  (72, .iinc 2 1, 3, 0, 0, 0, .int 1, []),
  (75, .goto (-42), 3, 33, 0, 0, .null, []),
  (78, .bipush (-4), 2, 0, 0, 0, .int (-4), []),
  (80, .ireturn, 1, 0, 0, 0, .null, [])]
def am_c_Re_init : List am_E := [(0, .aload_n 0, 1, 0, 0, 0, .null, []),
  (1, .invokespecial 3, 3, 0, 0, 1, .null, []),
  (4, .aload_n 0, 1, 0, 0, 0, .null, []),
  (5, .iconst 0, 1, 0, 0, 0, .int 0, []),
  (6, .putfield 9, 3, 5, 0, 0, .null, []),
  (9, .aload_n 0, 1, 0, 0, 0, .null, []),
  (10, .iconst 0, 1, 0, 0, 0, .int 0, []),
  (11, .putfield 15, 3, 5, 1, 0, .null, []),
  (14, .aload_n 0, 1, 0, 0, 0, .null, []),
  (15, .bipush 12, 2, 0, 0, 0, .int 12, []),
  (17, .newarray .int, 2, 14, 0, 0, .null, []),
  (19, .putfield 18, 3, 5, 2, 2, .null, []),
  (22, .aload_n 0, 1, 0, 0, 0, .null, []),
  (23, .new 22, 3, 9, 0, 0, .null, []),
  (26, .dup, 1, 0, 0, 0, .null, []),
  (27, .invokespecial 24, 3, 94, 0, 2, .null, []),
  (30, .putfield 25, 3, 5, 3, 2, .null, []),
  (33, .aload_n 0, 1, 0, 0, 0, .null, []),
  (34, .iconst 3, 1, 0, 0, 0, .int 3, []),
  (35, .newarray .int, 2, 14, 0, 0, .null, []),
  (37, .putfield 29, 3, 5, 4, 2, .null, []),
  (40, .aload_n 0, 1, 0, 0, 0, .null, []),
  (41, .iconst 0, 1, 0, 0, 0, .int 0, []),
  (42, .putfield 32, 3, 5, 5, 0, .null, []),
  (45, .aload_n 0, 1, 0, 0, 0, .null, []),
  (46, .iconst 0, 1, 0, 0, 0, .int 0, []),
  (47, .putfield 35, 3, 5, 6, 0, .null, []),
  (50, .return_, 1, 0, 0, 0, .null, [])]
def am_c_Re_faultOfTape_1 : List am_E := [(89, .ifCond .ne 10, 3, 99, 0, 0, .null, []),
  (92, .aload_n 0, 1, 0, 0, 0, .null, []),
  (93, .getfield 35, 3, 5, 6, 0, .null, []),
  (96, .goto 15, 3, 111, 0, 0, .null, []),
  (99, .aload_n 0, 1, 0, 0, 0, .null, []),
  (100, .invokevirtual 66, 3, 56, 0, 7, .null, []),
  (103, .ifCond .eq 7, 3, 110, 0, 0, .null, []),
  (106, .iconst (-1), 1, 0, 0, 0, .int (-1), []),
  (107, .goto 4, 3, 111, 0, 0, .null, []),
  (110, .iload_n 1, 1, 0, 0, 0, .null, []),
  (111, .ireturn, 1, 0, 0, 0, .null, []),
  (112, .aload_n 0, 1, 0, 0, 0, .null, []),
  (113, .ldc 69, 2, 3, 0, 1, .null, []),
  (115, .iload_n 1, 1, 0, 0, 0, .null, []),
  (116, .iload_n 2, 1, 0, 0, 0, .null, []),
  (117, .invokevirtual 47, 3, 45, 3, 7, .null, []),
  (120, .ifCond .eq 12, 3, 132, 0, 0, .null, []),
  (123, .aload_n 0, 1, 0, 0, 0, .null, []),
  (124, .aload_n 0, 1, 0, 0, 0, .null, []),
  (125, .invokevirtual 71, 3, 59, 0, 7, .null, []),
  (128, .invokevirtual 54, 3, 43, 1, 7, .null, []),
  (131, .ireturn, 1, 0, 0, 0, .null, []),
  (132, .aload_n 0, 1, 0, 0, 0, .null, []),
  (133, .ldc 73, 2, 4, 0, 1, .null, []),
  (135, .iload_n 1, 1, 0, 0, 0, .null, []),
  (136, .iload_n 2, 1, 0, 0, 0, .null, []),
  (137, .invokevirtual 47, 3, 45, 3, 7, .null, []),
  (140, .ifCond .eq 14, 3, 154, 0, 0, .null, []),
  (143, .aload_n 0, 1, 0, 0, 0, .null, []),
  (144, .aload_n 0, 1, 0, 0, 0, .null, []),
  (145, .invokevirtual 75, 3, 60, 0, 7, .null, []),
  (148, .invokevirtual 54, 3, 43, 1, 7, .null, []),
  (151, .goto 4, 3, 155, 0, 0, .null, []),
  (154, .iload_n 1, 1, 0, 0, 0, .null, []),
  (155, .ireturn, 1, 0, 0, 0, .null, [])]
def am_c_Re_faultOfTape : List am_E := (0, .aload_n 0, 1, 0, 0, 0, .null, []) ::
  (1, .iconst 0, 1, 0, 0, 0, .int 0, []) ::
  (2, .putfield 9, 3, 5, 0, 0, .null, []) ::
  (5, .aload_n 0, 1, 0, 0, 0, .null, []) ::
  (6, .iconst 0, 1, 0, 0, 0, .int 0, []) ::
  (7, .putfield 15, 3, 5, 1, 0, .null, []) ::
  (10, .aload_n 0, 1, 0, 0, 0, .null, []) ::
  (11, .iconst 0, 1, 0, 0, 0, .int 0, []) ::
  (12, .putfield 35, 3, 5, 6, 0, .null, []) ::
  (15, .aload_n 0, 1, 0, 0, 0, .null, []) ::
  (16, .invokevirtual 38, 3, 46, 0, 7, .null, []) ::
  (19, .pop, 1, 0, 0, 0, .null, []) ::
  (20, .aload_n 0, 1, 0, 0, 0, .null, []) ::
  (21, .getfield 35, 3, 5, 6, 0, .null, []) ::
  (24, .istore_n 1, 1, 0, 0, 0, .null, []) ::
  (25, .aload_n 0, 1, 0, 0, 0, .null, []) ::
  (26, .invokevirtual 42, 3, 44, 0, 7, .null, []) ::
  (29, .aload_n 0, 1, 0, 0, 0, .null, []) ::
  (30, .getfield 35, 3, 5, 6, 0, .null, []) ::
  (33, .istore_n 2, 1, 0, 0, 0, .null, []) ::
  (34, .aload_n 0, 1, 0, 0, 0, .null, []) ::
  (35, .ldc 45, 2, 0, 0, 1, .null, []) ::
  (37, .iload_n 1, 1, 0, 0, 0, .null, []) ::
  (38, .iload_n 2, 1, 0, 0, 0, .null, []) ::
  (39, .invokevirtual 47, 3, 45, 3, 7, .null, []) ::
  (42, .ifCond .eq 12, 3, 54, 0, 0, .null, []) ::
  (45, .aload_n 0, 1, 0, 0, 0, .null, []) ::
  (46, .aload_n 0, 1, 0, 0, 0, .null, []) ::
  (47, .invokevirtual 51, 3, 52, 0, 7, .null, []) ::
  (50, .invokevirtual 54, 3, 43, 1, 7, .null, []) ::
  (53, .ireturn, 1, 0, 0, 0, .null, []) ::
  (54, .aload_n 0, 1, 0, 0, 0, .null, []) ::
  (55, .ldc 58, 2, 1, 0, 1, .null, []) ::
  (57, .iload_n 1, 1, 0, 0, 0, .null, []) ::
  (58, .iload_n 2, 1, 0, 0, 0, .null, []) ::
  (59, .invokevirtual 47, 3, 45, 3, 7, .null, []) ::
  (62, .ifCond .eq 12, 3, 74, 0, 0, .null, []) ::
  (65, .aload_n 0, 1, 0, 0, 0, .null, []) ::
  (66, .aload_n 0, 1, 0, 0, 0, .null, []) ::
  (67, .invokevirtual 60, 3, 53, 0, 7, .null, []) ::
  (70, .invokevirtual 54, 3, 43, 1, 7, .null, []) ::
  (73, .ireturn, 1, 0, 0, 0, .null, []) ::
  (74, .aload_n 0, 1, 0, 0, 0, .null, []) ::
  (75, .ldc 62, 2, 2, 0, 1, .null, []) ::
  (77, .iload_n 1, 1, 0, 0, 0, .null, []) ::
  (78, .iload_n 2, 1, 0, 0, 0, .null, []) ::
  (79, .invokevirtual 47, 3, 45, 3, 7, .null, []) ::
  (82, .ifCond .eq 30, 3, 112, 0, 0, .null, []) ::
  (85, .aload_n 0, 1, 0, 0, 0, .null, []) ::
  (86, .invokevirtual 64, 3, 55, 0, 7, .null, []) :: am_c_Re_faultOfTape_1
def am_c_Re_faultUnless : List am_E := [(0, .iload_n 1, 1, 0, 0, 0, .null, []),
  (1, .ifCond .eq 7, 3, 8, 0, 0, .null, []),
  (4, .iconst (-1), 1, 0, 0, 0, .int (-1), []),
  (5, .goto 7, 3, 12, 0, 0, .null, []),
  (8, .aload_n 0, 1, 0, 0, 0, .null, []),
  (9, .getfield 35, 3, 5, 6, 0, .null, []),
  (12, .ireturn, 1, 0, 0, 0, .null, [])]
def am_c_Re_skipName : List am_E := [(0, .aload_n 0, 1, 0, 0, 0, .null, [(0, 0)]),
  (1, .getfield 25, 3, 5, 3, 2, .null, []),
  (4, .aload_n 0, 1, 0, 0, 0, .null, []),
  (5, .getfield 35, 3, 5, 6, 0, .null, []),
  (8, .invokevirtual 78, 3, 96, 1, 11, .null, []),
  (11, .bipush 97, 2, 0, 0, 0, .int 97, []),
  (13, .if_icmp .lt 41, 3, 54, 0, 0, .null, []),
  (16, .aload_n 0, 1, 0, 0, 0, .null, []),
  (17, .getfield 25, 3, 5, 3, 2, .null, []),
  (20, .aload_n 0, 1, 0, 0, 0, .null, []),
  (21, .getfield 35, 3, 5, 6, 0, .null, []),
  (24, .invokevirtual 78, 3, 96, 1, 11, .null, []),
  (27, .bipush 122, 2, 0, 0, 0, .int 122, []),
  (29, .if_icmp .gt 25, 3, 54, 0, 0, .null, []),
  (32, .aload_n 0, 1, 0, 0, 0, .null, []),
  (33, .getfield 35, 3, 5, 6, 0, .null, []),
  (36, .bipush 90, 2, 0, 0, 0, .int 90, []),
  (38, .if_icmp .ge 16, 3, 54, 0, 0, .null, []),
  (41, .aload_n 0, 1, 0, 0, 0, .null, []),
  (42, .dup, 1, 0, 0, 0, .null, []),
  (43, .getfield 35, 3, 5, 6, 0, .null, []),
  (46, .iconst 1, 1, 0, 0, 0, .int 1, []),
  (47, .iadd, 1, 0, 0, 0, .null, []),
  (48, .putfield 35, 3, 5, 6, 0, .null, []),
  (51, .goto (-51), 3, 0, 0, 0, .null, []),
  (54, .return_, 1, 0, 0, 0, .null, [])]
def am_c_Re_isName : List am_E := [(0, .iload_n 3, 1, 0, 0, 0, .null, []),
  (1, .iload_n 2, 1, 0, 0, 0, .null, []),
  (2, .isub, 1, 0, 0, 0, .null, []),
  (3, .aload_n 1, 1, 0, 0, 0, .null, []),
  (4, .invokevirtual 81, 3, 0, 0, 0, .null, []),
  (7, .if_icmp .eq 5, 3, 12, 0, 0, .null, []),
  (10, .iconst 0, 1, 0, 0, 0, .int 0, []),
  (11, .ireturn, 1, 0, 0, 0, .null, []),
  (12, .iconst 0, 1, 0, 0, 0, .int 0, []),
  (13, .istore 4, 2, 0, 0, 0, .null, []),
  (15, .iload 4, 2, 0, 0, 0, .null, [(0, 0)]),
  (17, .aload_n 1, 1, 0, 0, 0, .null, []),
  (18, .invokevirtual 81, 3, 0, 0, 0, .null, []),
  (21, .if_icmp .ge 31, 3, 52, 0, 0, .null, []),
  (24, .aload_n 0, 1, 0, 0, 0, .null, []),
  (25, .getfield 25, 3, 5, 3, 2, .null, []),
  (28, .iload_n 2, 1, 0, 0, 0, .null, []),
  (29, .iload 4, 2, 0, 0, 0, .null, []),
  (31, .iadd, 1, 0, 0, 0, .null, []),
  (32, .invokevirtual 78, 3, 96, 1, 11, .null, []),
  (35, .aload_n 1, 1, 0, 0, 0, .null, []),
  (36, .iload 4, 2, 0, 0, 0, .null, []),
  (38, .invokevirtual 87, 3, 0, 1, 1, .null, []),
  (41, .if_icmp .eq 5, 3, 46, 0, 0, .null, []),
  (44, .iconst 0, 1, 0, 0, 0, .int 0, []),
  (45, .ireturn, 1, 0, 0, 0, .null, []),
  (46, .iinc 4 1, 3, 0, 0, 0, .int 1, []),
  (49, .goto (-34), 3, 15, 0, 0, .null, []),
  (52, .iconst 1, 1, 0, 0, 0, .int 1, []),
  (53, .ireturn, 1, 0, 0, 0, .null, [])]
def am_c_Re_next : List am_E := [(0, .aload_n 0, 1, 0, 0, 0, .null, [(0, 0)]),
  (1, .getfield 25, 3, 5, 3, 2, .null, []),
  (4, .aload_n 0, 1, 0, 0, 0, .null, []),
  (5, .getfield 35, 3, 5, 6, 0, .null, []),
  (8, .invokevirtual 78, 3, 96, 1, 11, .null, []),
  (11, .bipush 32, 2, 0, 0, 0, .int 32, []),
  (13, .if_icmp .ne 25, 3, 38, 0, 0, .null, []),
  (16, .aload_n 0, 1, 0, 0, 0, .null, []),
  (17, .getfield 35, 3, 5, 6, 0, .null, []),
  (20, .bipush 90, 2, 0, 0, 0, .int 90, []),
  (22, .if_icmp .ge 16, 3, 38, 0, 0, .null, []),
  (25, .aload_n 0, 1, 0, 0, 0, .null, []),
  (26, .dup, 1, 0, 0, 0, .null, []),
  (27, .getfield 35, 3, 5, 6, 0, .null, []),
  (30, .iconst 1, 1, 0, 0, 0, .int 1, []),
  (31, .iadd, 1, 0, 0, 0, .null, []),
  (32, .putfield 35, 3, 5, 6, 0, .null, []),
  (35, .goto (-35), 3, 0, 0, 0, .null, []),
  (38, .aload_n 0, 1, 0, 0, 0, .null, []),
  (39, .getfield 25, 3, 5, 3, 2, .null, []),
  (42, .aload_n 0, 1, 0, 0, 0, .null, []),
  (43, .getfield 35, 3, 5, 6, 0, .null, []),
  (46, .invokevirtual 78, 3, 96, 1, 11, .null, []),
  (49, .ireturn, 1, 0, 0, 0, .null, [])]
def am_c_Re_skips : List am_E := [(0, .aload_n 0, 1, 0, 0, 0, .null, []),
  (1, .invokevirtual 38, 3, 46, 0, 7, .null, []),
  (4, .iload_n 1, 1, 0, 0, 0, .null, []),
  (5, .if_icmp .eq 5, 3, 10, 0, 0, .null, []),
  (8, .iconst 0, 1, 0, 0, 0, .int 0, []),
  (9, .ireturn, 1, 0, 0, 0, .null, []),
  (10, .aload_n 0, 1, 0, 0, 0, .null, []),
  (11, .dup, 1, 0, 0, 0, .null, []),
  (12, .getfield 35, 3, 5, 6, 0, .null, []),
  (15, .iconst 1, 1, 0, 0, 0, .int 1, []),
  (16, .iadd, 1, 0, 0, 0, .null, []),
  (17, .putfield 35, 3, 5, 6, 0, .null, []),
  (20, .iconst 1, 1, 0, 0, 0, .int 1, []),
  (21, .ireturn, 1, 0, 0, 0, .null, [])]
def am_c_Re_figure : List am_E := [(0, .aload_n 0, 1, 0, 0, 0, .null, []),
  (1, .invokevirtual 38, 3, 46, 0, 7, .null, []),
  (4, .bipush 48, 2, 0, 0, 0, .int 48, []),
  (6, .isub, 1, 0, 0, 0, .null, []),
  (7, .istore_n 2, 1, 0, 0, 0, .null, []),
  (8, .iload_n 2, 1, 0, 0, 0, .null, []),
  (9, .iconst 1, 1, 0, 0, 0, .int 1, []),
  (10, .if_icmp .lt 8, 3, 18, 0, 0, .null, []),
  (13, .iload_n 2, 1, 0, 0, 0, .null, []),
  (14, .iload_n 1, 1, 0, 0, 0, .null, []),
  (15, .if_icmp .le 5, 3, 20, 0, 0, .null, []),
  (18, .iconst 0, 1, 0, 0, 0, .int 0, []),
  (19, .ireturn, 1, 0, 0, 0, .null, []),
  (20, .aload_n 0, 1, 0, 0, 0, .null, []),
  (21, .dup, 1, 0, 0, 0, .null, []),
  (22, .getfield 35, 3, 5, 6, 0, .null, []),
  (25, .iconst 1, 1, 0, 0, 0, .int 1, []),
  (26, .iadd, 1, 0, 0, 0, .null, []),
  (27, .putfield 35, 3, 5, 6, 0, .null, []),
  (30, .iload_n 2, 1, 0, 0, 0, .null, []),
  (31, .ireturn, 1, 0, 0, 0, .null, [])]
def am_c_Re_ends : List am_E := [(0, .aload_n 0, 1, 0, 0, 0, .null, []),
  (1, .invokevirtual 38, 3, 46, 0, 7, .null, []),
  (4, .ifCond .ne 7, 3, 11, 0, 0, .null, []),
  (7, .iconst 1, 1, 0, 0, 0, .int 1, []),
  (8, .goto 4, 3, 12, 0, 0, .null, []),
  (11, .iconst 0, 1, 0, 0, 0, .int 0, []),
  (12, .ireturn, 1, 0, 0, 0, .null, [])]
def am_c_Re_isTold : List am_E := [(0, .iconst 0, 1, 0, 0, 0, .int 0, []),
  (1, .istore_n 2, 1, 0, 0, 0, .null, []),
  (2, .iload_n 2, 1, 0, 0, 0, .null, [(0, 0)]),
  (3, .aload_n 0, 1, 0, 0, 0, .null, []),
  (4, .getfield 15, 3, 5, 1, 0, .null, []),
  (7, .if_icmp .ge 21, 3, 28, 0, 0, .null, []),
  (10, .aload_n 0, 1, 0, 0, 0, .null, []),
  (11, .getfield 18, 3, 5, 2, 2, .null, []),
  (14, .iload_n 2, 1, 0, 0, 0, .null, []),
  (15, .iaload, 1, 0, 0, 0, .null, []),
  (16, .iload_n 1, 1, 0, 0, 0, .null, []),
  (17, .if_icmp .ne 5, 3, 22, 0, 0, .null, []),
  (20, .iconst 1, 1, 0, 0, 0, .int 1, []),
  (21, .ireturn, 1, 0, 0, 0, .null, []),
  (22, .iinc 2 1, 3, 0, 0, 0, .int 1, []),
  (25, .goto (-23), 3, 2, 0, 0, .null, []),
  (28, .iconst 0, 1, 0, 0, 0, .int 0, []),
  (29, .ireturn, 1, 0, 0, 0, .null, [])]
def am_c_Re_tell : List am_E := [(0, .aload_n 0, 1, 0, 0, 0, .null, []),
  (1, .getfield 15, 3, 5, 1, 0, .null, []),
  (4, .bipush 12, 2, 0, 0, 0, .int 12, []),
  (6, .if_icmp .ge 31, 3, 37, 0, 0, .null, []),
  (9, .aload_n 0, 1, 0, 0, 0, .null, []),
  (10, .iload_n 1, 1, 0, 0, 0, .null, []),
  (11, .invokevirtual 90, 3, 50, 1, 7, .null, []),
  (14, .ifCond .ne 23, 3, 37, 0, 0, .null, []),
  (17, .aload_n 0, 1, 0, 0, 0, .null, []),
  (18, .getfield 18, 3, 5, 2, 2, .null, []),
  (21, .aload_n 0, 1, 0, 0, 0, .null, []),
  (22, .getfield 15, 3, 5, 1, 0, .null, []),
  (25, .iload_n 1, 1, 0, 0, 0, .null, []),
  (26, .iastore, 1, 0, 0, 0, .null, []),
  (27, .aload_n 0, 1, 0, 0, 0, .null, []),
  (28, .dup, 1, 0, 0, 0, .null, []),
  (29, .getfield 15, 3, 5, 1, 0, .null, []),
  (32, .iconst 1, 1, 0, 0, 0, .int 1, []),
  (33, .iadd, 1, 0, 0, 0, .null, []),
  (34, .putfield 15, 3, 5, 1, 0, .null, []),
  (37, .return_, 1, 0, 0, 0, .null, [])]
def am_c_Re_majority : List am_E := [(0, .aload_n 0, 1, 0, 0, 0, .null, []),
  (1, .aload_n 0, 1, 0, 0, 0, .null, []),
  (2, .iconst 5, 1, 0, 0, 0, .int 5, []),
  (3, .invokevirtual 94, 3, 48, 1, 7, .null, []),
  (6, .putfield 9, 3, 5, 0, 0, .null, []),
  (9, .aload_n 0, 1, 0, 0, 0, .null, []),
  (10, .getfield 9, 3, 5, 0, 0, .null, []),
  (13, .ifCond .eq 10, 3, 23, 0, 0, .null, []),
  (16, .aload_n 0, 1, 0, 0, 0, .null, []),
  (17, .invokevirtual 98, 3, 49, 0, 7, .null, []),
  (20, .ifCond .ne 5, 3, 25, 0, 0, .null, []),
  (23, .iconst 0, 1, 0, 0, 0, .int 0, []),
  (24, .ireturn, 1, 0, 0, 0, .null, []),
  (25, .iconst 0, 1, 0, 0, 0, .int 0, []),
  (26, .istore_n 1, 1, 0, 0, 0, .null, []),
  (27, .iload_n 1, 1, 0, 0, 0, .null, [(0, 0)]),
  (28, .iconst 1, 1, 0, 0, 0, .int 1, []),
  (29, .aload_n 0, 1, 0, 0, 0, .null, []),
  (30, .getfield 9, 3, 5, 0, 0, .null, []),
  (33, .ishl, 1, 0, 0, 0, .null, []),
  (34, .if_icmp .ge 29, 3, 63, 0, 0, .null, []),
  (37, .iload_n 1, 1, 0, 0, 0, .null, []),
  (38, .invokestatic 101, 3, 0, 1, 0, .null, []),
  (41, .aload_n 0, 1, 0, 0, 0, .null, []),
  (42, .getfield 9, 3, 5, 0, 0, .null, []),
  (45, .iconst 2, 1, 0, 0, 0, .int 2, []),
  (46, .idiv, 1, 0, 0, 0, .null, []),
  (47, .iconst 1, 1, 0, 0, 0, .int 1, []),
  (48, .iadd, 1, 0, 0, 0, .null, []),
  (49, .if_icmp .ne 8, 3, 57, 0, 0, .null, []),
  (52, .aload_n 0, 1, 0, 0, 0, .null, []),
  (53, .iload_n 1, 1, 0, 0, 0, .null, []),
  (54, .invokevirtual 106, 3, 51, 1, 7, .null, []),
  (57, .iinc 1 1, 3, 0, 0, 0, .int 1, []),
  (60, .goto (-33), 3, 27, 0, 0, .null, []),
  (63, .iconst 1, 1, 0, 0, 0, .int 1, []),
  (64, .ireturn, 1, 0, 0, 0, .null, [])]
def am_c_Re_grid_1 : List am_E := [(81, .istore 4, 2, 0, 0, 0, .null, []),
  (83, .iload 4, 2, 0, 0, 0, .null, [(0, 0)]),
  (85, .iload_n 2, 1, 0, 0, 0, .null, []),
  (86, .if_icmp .ge 41, 3, 127, 0, 0, .null, []),
  (89, .iconst 0, 1, 0, 0, 0, .int 0, []),
  (90, .istore 5, 2, 0, 0, 0, .null, []),
  (92, .iload 5, 2, 0, 0, 0, .null, [(0, 0)]),
  (94, .iload_n 1, 1, 0, 0, 0, .null, []),
  (95, .if_icmp .ge 26, 3, 121, 0, 0, .null, []),
  (98, .aload_n 0, 1, 0, 0, 0, .null, []),
  (99, .iload_n 1, 1, 0, 0, 0, .null, []),
  (100, .iload_n 1, 1, 0, 0, 0, .null, []),
  (101, .iload 4, 2, 0, 0, 0, .null, []),
  (103, .imul, 1, 0, 0, 0, .null, []),
  (104, .invokestatic 120, 3, 54, 2, 0, .null, []),
  (107, .iload_n 3, 1, 0, 0, 0, .null, []),
  (108, .iload 5, 2, 0, 0, 0, .null, []),
  (110, .ishl, 1, 0, 0, 0, .null, []),
  (111, .ior, 1, 0, 0, 0, .null, []),
  (112, .invokevirtual 106, 3, 51, 1, 7, .null, []),
  (115, .iinc 5 1, 3, 0, 0, 0, .int 1, []),
  (118, .goto (-26), 3, 92, 0, 0, .null, []),
  (121, .iinc 4 1, 3, 0, 0, 0, .int 1, []),
  (124, .goto (-41), 3, 83, 0, 0, .null, []),
  (127, .iconst 1, 1, 0, 0, 0, .int 1, []),
  (128, .ireturn, 1, 0, 0, 0, .null, [])]
def am_c_Re_grid : List am_E := (0, .aload_n 0, 1, 0, 0, 0, .null, []) ::
  (1, .iconst 4, 1, 0, 0, 0, .int 4, []) ::
  (2, .invokevirtual 94, 3, 48, 1, 7, .null, []) ::
  (5, .istore_n 1, 1, 0, 0, 0, .null, []) ::
  (6, .iload_n 1, 1, 0, 0, 0, .null, []) ::
  (7, .ifCond .eq 12, 3, 19, 0, 0, .null, []) ::
  (10, .aload_n 0, 1, 0, 0, 0, .null, []) ::
  (11, .bipush 42, 2, 0, 0, 0, .int 42, []) ::
  (13, .invokevirtual 110, 3, 47, 1, 7, .null, []) ::
  (16, .ifCond .ne 5, 3, 21, 0, 0, .null, []) ::
  (19, .iconst 0, 1, 0, 0, 0, .int 0, []) ::
  (20, .ireturn, 1, 0, 0, 0, .null, []) ::
  (21, .aload_n 0, 1, 0, 0, 0, .null, []) ::
  (22, .iconst 4, 1, 0, 0, 0, .int 4, []) ::
  (23, .bipush 7, 2, 0, 0, 0, .int 7, []) ::
  (25, .iload_n 1, 1, 0, 0, 0, .null, []) ::
  (26, .idiv, 1, 0, 0, 0, .null, []) ::
  (27, .invokestatic 114, 3, 0, 2, 4, .null, []) ::
  (30, .invokevirtual 94, 3, 48, 1, 7, .null, []) ::
  (33, .istore_n 2, 1, 0, 0, 0, .null, []) ::
  (34, .iload_n 2, 1, 0, 0, 0, .null, []) ::
  (35, .ifCond .eq 10, 3, 45, 0, 0, .null, []) ::
  (38, .aload_n 0, 1, 0, 0, 0, .null, []) ::
  (39, .invokevirtual 98, 3, 49, 0, 7, .null, []) ::
  (42, .ifCond .ne 5, 3, 47, 0, 0, .null, []) ::
  (45, .iconst 0, 1, 0, 0, 0, .int 0, []) ::
  (46, .ireturn, 1, 0, 0, 0, .null, []) ::
  (47, .aload_n 0, 1, 0, 0, 0, .null, []) ::
  (48, .iload_n 1, 1, 0, 0, 0, .null, []) ::
  (49, .iload_n 2, 1, 0, 0, 0, .null, []) ::
  (50, .imul, 1, 0, 0, 0, .null, []) ::
  (51, .putfield 9, 3, 5, 0, 0, .null, []) ::
  (54, .iconst 0, 1, 0, 0, 0, .int 0, []) ::
  (55, .istore_n 3, 1, 0, 0, 0, .null, []) ::
  (56, .iconst 0, 1, 0, 0, 0, .int 0, []) ::
  (57, .istore 4, 2, 0, 0, 0, .null, []) ::
  (59, .iload 4, 2, 0, 0, 0, .null, [(0, 0)]) ::
  (61, .iload_n 2, 1, 0, 0, 0, .null, []) ::
  (62, .if_icmp .ge 18, 3, 80, 0, 0, .null, []) ::
  (65, .iload_n 3, 1, 0, 0, 0, .null, []) ::
  (66, .iconst 1, 1, 0, 0, 0, .int 1, []) ::
  (67, .iload_n 1, 1, 0, 0, 0, .null, []) ::
  (68, .iload 4, 2, 0, 0, 0, .null, []) ::
  (70, .imul, 1, 0, 0, 0, .null, []) ::
  (71, .ishl, 1, 0, 0, 0, .null, []) ::
  (72, .ior, 1, 0, 0, 0, .null, []) ::
  (73, .istore_n 3, 1, 0, 0, 0, .null, []) ::
  (74, .iinc 4 1, 3, 0, 0, 0, .int 1, []) ::
  (77, .goto (-18), 3, 59, 0, 0, .null, []) ::
  (80, .iconst 0, 1, 0, 0, 0, .int 0, []) :: am_c_Re_grid_1
def am_c_Re_wallRow : List am_E := [(0, .iconst 1, 1, 0, 0, 0, .int 1, []),
  (1, .iload_n 0, 1, 0, 0, 0, .null, []),
  (2, .ishl, 1, 0, 0, 0, .null, []),
  (3, .iconst 1, 1, 0, 0, 0, .int 1, []),
  (4, .isub, 1, 0, 0, 0, .null, []),
  (5, .iload_n 1, 1, 0, 0, 0, .null, []),
  (6, .ishl, 1, 0, 0, 0, .null, []),
  (7, .ireturn, 1, 0, 0, 0, .null, [])]
def am_c_Re_wall_1 : List am_E := [(90, .invokevirtual 98, 3, 49, 0, 7, .null, []),
  (93, .ireturn, 1, 0, 0, 0, .null, [])]
def am_c_Re_wall : List am_E := (0, .aload_n 0, 1, 0, 0, 0, .null, []) ::
  (1, .iconst 0, 1, 0, 0, 0, .int 0, []) ::
  (2, .putfield 32, 3, 5, 5, 0, .null, []) ::
  (5, .aload_n 0, 1, 0, 0, 0, .null, [(0, 0)]) ::
  (6, .getfield 32, 3, 5, 5, 0, .null, []) ::
  (9, .iconst 3, 1, 0, 0, 0, .int 3, []) ::
  (10, .if_icmp .ge 79, 3, 89, 0, 0, .null, []) ::
  (13, .aload_n 0, 1, 0, 0, 0, .null, []) ::
  (14, .getfield 32, 3, 5, 5, 0, .null, []) ::
  (17, .ifCond .le 17, 3, 34, 0, 0, .null, []) ::
  (20, .aload_n 0, 1, 0, 0, 0, .null, []) ::
  (21, .bipush 44, 2, 0, 0, 0, .int 44, []) ::
  (23, .invokevirtual 110, 3, 47, 1, 7, .null, []) ::
  (26, .ifCond .ne 8, 3, 34, 0, 0, .null, []) ::
  (29, .aload_n 0, 1, 0, 0, 0, .null, []) ::
  (30, .invokevirtual 98, 3, 49, 0, 7, .null, []) ::
  (33, .ireturn, 1, 0, 0, 0, .null, []) ::
  (34, .aload_n 0, 1, 0, 0, 0, .null, []) ::
  (35, .iconst 4, 1, 0, 0, 0, .int 4, []) ::
  (36, .bipush 7, 2, 0, 0, 0, .int 7, []) ::
  (38, .aload_n 0, 1, 0, 0, 0, .null, []) ::
  (39, .getfield 9, 3, 5, 0, 0, .null, []) ::
  (42, .isub, 1, 0, 0, 0, .null, []) ::
  (43, .invokestatic 114, 3, 0, 2, 4, .null, []) ::
  (46, .invokevirtual 94, 3, 48, 1, 7, .null, []) ::
  (49, .istore_n 1, 1, 0, 0, 0, .null, []) ::
  (50, .iload_n 1, 1, 0, 0, 0, .null, []) ::
  (51, .ifCond .ne 5, 3, 56, 0, 0, .null, []) ::
  (54, .iconst 0, 1, 0, 0, 0, .int 0, []) ::
  (55, .ireturn, 1, 0, 0, 0, .null, []) ::
  (56, .aload_n 0, 1, 0, 0, 0, .null, []) ::
  (57, .getfield 29, 3, 5, 4, 2, .null, []) ::
  (60, .aload_n 0, 1, 0, 0, 0, .null, []) ::
  (61, .getfield 32, 3, 5, 5, 0, .null, []) ::
  (64, .iload_n 1, 1, 0, 0, 0, .null, []) ::
  (65, .iastore, 1, 0, 0, 0, .null, []) ::
  (66, .aload_n 0, 1, 0, 0, 0, .null, []) ::
  (67, .dup, 1, 0, 0, 0, .null, []) ::
  (68, .getfield 9, 3, 5, 0, 0, .null, []) ::
  (71, .iload_n 1, 1, 0, 0, 0, .null, []) ::
  (72, .iadd, 1, 0, 0, 0, .null, []) ::
  (73, .putfield 9, 3, 5, 0, 0, .null, []) ::
  (76, .aload_n 0, 1, 0, 0, 0, .null, []) ::
  (77, .dup, 1, 0, 0, 0, .null, []) ::
  (78, .getfield 32, 3, 5, 5, 0, .null, []) ::
  (81, .iconst 1, 1, 0, 0, 0, .int 1, []) ::
  (82, .iadd, 1, 0, 0, 0, .null, []) ::
  (83, .putfield 32, 3, 5, 5, 0, .null, []) ::
  (86, .goto (-81), 3, 5, 0, 0, .null, []) ::
  (89, .aload_n 0, 1, 0, 0, 0, .null, []) :: am_c_Re_wall_1
def am_c_Re_isWallTold_1 : List am_E := [(84, .goto (-35), 3, 49, 0, 0, .null, []),
  (87, .iload_n 2, 1, 0, 0, 0, .null, []),
  (88, .aload_n 0, 1, 0, 0, 0, .null, []),
  (89, .getfield 29, 3, 5, 4, 2, .null, []),
  (92, .iload_n 3, 1, 0, 0, 0, .null, []),
  (93, .iaload, 1, 0, 0, 0, .null, []),
  (94, .iadd, 1, 0, 0, 0, .null, []),
  (95, .istore_n 2, 1, 0, 0, 0, .null, []),
  (96, .iinc 3 1, 3, 0, 0, 0, .int 1, []),
  (99, .goto (-61), 3, 38, 0, 0, .null, []),
  (102, .iconst 1, 1, 0, 0, 0, .int 1, []),
  (103, .ireturn, 1, 0, 0, 0, .null, [])]
def am_c_Re_isWallTold : List am_E := (0, .iconst 0, 1, 0, 0, 0, .int 0, []) ::
  (1, .istore_n 1, 1, 0, 0, 0, .null, []) ::
  (2, .iconst 0, 1, 0, 0, 0, .int 0, []) ::
  (3, .istore_n 2, 1, 0, 0, 0, .null, []) ::
  (4, .iload_n 2, 1, 0, 0, 0, .null, [(0, 0)]) ::
  (5, .aload_n 0, 1, 0, 0, 0, .null, []) ::
  (6, .getfield 32, 3, 5, 5, 0, .null, []) ::
  (9, .if_icmp .ge 17, 3, 26, 0, 0, .null, []) ::
  (12, .iload_n 1, 1, 0, 0, 0, .null, []) ::
  (13, .aload_n 0, 1, 0, 0, 0, .null, []) ::
  (14, .iload_n 2, 1, 0, 0, 0, .null, []) ::
  (15, .invokevirtual 123, 3, 57, 1, 7, .null, []) ::
  (18, .iadd, 1, 0, 0, 0, .null, []) ::
  (19, .istore_n 1, 1, 0, 0, 0, .null, []) ::
  (20, .iinc 2 1, 3, 0, 0, 0, .int 1, []) ::
  (23, .goto (-19), 3, 4, 0, 0, .null, []) ::
  (26, .iload_n 1, 1, 0, 0, 0, .null, []) ::
  (27, .bipush 12, 2, 0, 0, 0, .int 12, []) ::
  (29, .if_icmp .le 5, 3, 34, 0, 0, .null, []) ::
  (32, .iconst 0, 1, 0, 0, 0, .int 0, []) ::
  (33, .ireturn, 1, 0, 0, 0, .null, []) ::
  (34, .iconst 0, 1, 0, 0, 0, .int 0, []) ::
  (35, .istore_n 2, 1, 0, 0, 0, .null, []) ::
  (36, .iconst 0, 1, 0, 0, 0, .int 0, []) ::
  (37, .istore_n 3, 1, 0, 0, 0, .null, []) ::
  (38, .iload_n 3, 1, 0, 0, 0, .null, [(0, 0)]) ::
  (39, .aload_n 0, 1, 0, 0, 0, .null, []) ::
  (40, .getfield 32, 3, 5, 5, 0, .null, []) ::
  (43, .if_icmp .ge 59, 3, 102, 0, 0, .null, []) ::
  (46, .iconst 0, 1, 0, 0, 0, .int 0, []) ::
  (47, .istore 4, 2, 0, 0, 0, .null, []) ::
  (49, .iload 4, 2, 0, 0, 0, .null, [(0, 0)]) ::
  (51, .aload_n 0, 1, 0, 0, 0, .null, []) ::
  (52, .iload_n 3, 1, 0, 0, 0, .null, []) ::
  (53, .invokevirtual 123, 3, 57, 1, 7, .null, []) ::
  (56, .if_icmp .ge 31, 3, 87, 0, 0, .null, []) ::
  (59, .aload_n 0, 1, 0, 0, 0, .null, []) ::
  (60, .aload_n 0, 1, 0, 0, 0, .null, []) ::
  (61, .getfield 29, 3, 5, 4, 2, .null, []) ::
  (64, .iload_n 3, 1, 0, 0, 0, .null, []) ::
  (65, .iaload, 1, 0, 0, 0, .null, []) ::
  (66, .iload_n 2, 1, 0, 0, 0, .null, []) ::
  (67, .invokestatic 120, 3, 54, 2, 0, .null, []) ::
  (70, .aload_n 0, 1, 0, 0, 0, .null, []) ::
  (71, .iload_n 3, 1, 0, 0, 0, .null, []) ::
  (72, .iload 4, 2, 0, 0, 0, .null, []) ::
  (74, .invokevirtual 126, 3, 58, 2, 7, .null, []) ::
  (77, .ior, 1, 0, 0, 0, .null, []) ::
  (78, .invokevirtual 106, 3, 51, 1, 7, .null, []) ::
  (81, .iinc 4 1, 3, 0, 0, 0, .int 1, []) :: am_c_Re_isWallTold_1
def am_c_Re_waysBelow : List am_E := [(0, .iconst 1, 1, 0, 0, 0, .int 1, []),
  (1, .istore_n 2, 1, 0, 0, 0, .null, []),
  (2, .iload_n 1, 1, 0, 0, 0, .null, []),
  (3, .iconst 1, 1, 0, 0, 0, .int 1, []),
  (4, .iadd, 1, 0, 0, 0, .null, []),
  (5, .istore_n 3, 1, 0, 0, 0, .null, []),
  (6, .iload_n 3, 1, 0, 0, 0, .null, [(0, 0)]),
  (7, .aload_n 0, 1, 0, 0, 0, .null, []),
  (8, .getfield 32, 3, 5, 5, 0, .null, []),
  (11, .if_icmp .ge 18, 3, 29, 0, 0, .null, []),
  (14, .iload_n 2, 1, 0, 0, 0, .null, []),
  (15, .aload_n 0, 1, 0, 0, 0, .null, []),
  (16, .getfield 29, 3, 5, 4, 2, .null, []),
  (19, .iload_n 3, 1, 0, 0, 0, .null, []),
  (20, .iaload, 1, 0, 0, 0, .null, []),
  (21, .imul, 1, 0, 0, 0, .null, []),
  (22, .istore_n 2, 1, 0, 0, 0, .null, []),
  (23, .iinc 3 1, 3, 0, 0, 0, .int 1, []),
  (26, .goto (-20), 3, 6, 0, 0, .null, []),
  (29, .iload_n 2, 1, 0, 0, 0, .null, []),
  (30, .ireturn, 1, 0, 0, 0, .null, [])]
def am_c_Re_chosenBelow : List am_E := [(0, .iconst 0, 1, 0, 0, 0, .int 0, []),
  (1, .istore_n 3, 1, 0, 0, 0, .null, []),
  (2, .iload_n 2, 1, 0, 0, 0, .null, []),
  (3, .istore 4, 2, 0, 0, 0, .null, []),
  (5, .aload_n 0, 1, 0, 0, 0, .null, []),
  (6, .getfield 9, 3, 5, 0, 0, .null, []),
  (9, .istore 5, 2, 0, 0, 0, .null, []),
  (11, .aload_n 0, 1, 0, 0, 0, .null, []),
  (12, .getfield 32, 3, 5, 5, 0, .null, []),
  (15, .iconst 1, 1, 0, 0, 0, .int 1, []),
  (16, .isub, 1, 0, 0, 0, .null, []),
  (17, .istore 6, 2, 0, 0, 0, .null, []),
  (19, .iload 6, 2, 0, 0, 0, .null, [(0, 0)]),
  (21, .iload_n 1, 1, 0, 0, 0, .null, []),
  (22, .if_icmp .le 50, 3, 72, 0, 0, .null, []),
  (25, .aload_n 0, 1, 0, 0, 0, .null, []),
  (26, .getfield 29, 3, 5, 4, 2, .null, []),
  (29, .iload 6, 2, 0, 0, 0, .null, []),
  (31, .iaload, 1, 0, 0, 0, .null, []),
  (32, .istore 7, 2, 0, 0, 0, .null, []),
  (34, .iload 5, 2, 0, 0, 0, .null, []),
  (36, .iload 7, 2, 0, 0, 0, .null, []),
  (38, .isub, 1, 0, 0, 0, .null, []),
  (39, .istore 5, 2, 0, 0, 0, .null, []),
  (41, .iload 7, 2, 0, 0, 0, .null, []),
  (43, .ifCond .le 23, 3, 66, 0, 0, .null, []),
  (46, .iload_n 3, 1, 0, 0, 0, .null, []),
  (47, .iconst 1, 1, 0, 0, 0, .int 1, []),
  (48, .iload 5, 2, 0, 0, 0, .null, []),
  (50, .iload 4, 2, 0, 0, 0, .null, []),
  (52, .iload 7, 2, 0, 0, 0, .null, []),
  (54, .irem, 1, 0, 0, 0, .null, []),
  (55, .iadd, 1, 0, 0, 0, .null, []),
  (56, .ishl, 1, 0, 0, 0, .null, []),
  (57, .ior, 1, 0, 0, 0, .null, []),
  (58, .istore_n 3, 1, 0, 0, 0, .null, []),
  (59, .iload 4, 2, 0, 0, 0, .null, []),
  (61, .iload 7, 2, 0, 0, 0, .null, []),
  (63, .idiv, 1, 0, 0, 0, .null, []),
  (64, .istore 4, 2, 0, 0, 0, .null, []),
  (66, .iinc 6 (-1), 3, 0, 0, 0, .int (-1), []),
  (69, .goto (-50), 3, 19, 0, 0, .null, []),
  (72, .iload_n 3, 1, 0, 0, 0, .null, []),
  (73, .ireturn, 1, 0, 0, 0, .null, [])]
def am_c_Re_plane : List am_E := [(0, .aload_n 0, 1, 0, 0, 0, .null, []),
  (1, .bipush 7, 2, 0, 0, 0, .int 7, []),
  (3, .putfield 9, 3, 5, 0, 0, .null, []),
  (6, .aload_n 0, 1, 0, 0, 0, .null, []),
  (7, .invokevirtual 98, 3, 49, 0, 7, .null, []),
  (10, .ifCond .ne 5, 3, 15, 0, 0, .null, []),
  (13, .iconst 0, 1, 0, 0, 0, .int 0, []),
  (14, .ireturn, 1, 0, 0, 0, .null, []),
  (15, .iconst 0, 1, 0, 0, 0, .int 0, []),
  (16, .istore_n 1, 1, 0, 0, 0, .null, []),
  (17, .iload_n 1, 1, 0, 0, 0, .null, [(0, 0)]),
  (18, .aload_n 0, 1, 0, 0, 0, .null, []),
  (19, .getfield 9, 3, 5, 0, 0, .null, []),
  (22, .if_icmp .ge 34, 3, 56, 0, 0, .null, []),
  (25, .aload_n 0, 1, 0, 0, 0, .null, []),
  (26, .iconst 1, 1, 0, 0, 0, .int 1, []),
  (27, .iload_n 1, 1, 0, 0, 0, .null, []),
  (28, .ishl, 1, 0, 0, 0, .null, []),
  (29, .iconst 1, 1, 0, 0, 0, .int 1, []),
  (30, .iload_n 1, 1, 0, 0, 0, .null, []),
  (31, .iconst 1, 1, 0, 0, 0, .int 1, []),
  (32, .iadd, 1, 0, 0, 0, .null, []),
  (33, .bipush 7, 2, 0, 0, 0, .int 7, []),
  (35, .irem, 1, 0, 0, 0, .null, []),
  (36, .ishl, 1, 0, 0, 0, .null, []),
  (37, .ior, 1, 0, 0, 0, .null, []),
  (38, .iconst 1, 1, 0, 0, 0, .int 1, []),
  (39, .iload_n 1, 1, 0, 0, 0, .null, []),
  (40, .iconst 3, 1, 0, 0, 0, .int 3, []),
  (41, .iadd, 1, 0, 0, 0, .null, []),
  (42, .bipush 7, 2, 0, 0, 0, .int 7, []),
  (44, .irem, 1, 0, 0, 0, .null, []),
  (45, .ishl, 1, 0, 0, 0, .null, []),
  (46, .ior, 1, 0, 0, 0, .null, []),
  (47, .invokevirtual 106, 3, 51, 1, 7, .null, []),
  (50, .iinc 1 1, 3, 0, 0, 0, .int 1, []),
  (53, .goto (-36), 3, 17, 0, 0, .null, []),
  (56, .iconst 1, 1, 0, 0, 0, .int 1, []),
  (57, .ireturn, 1, 0, 0, 0, .null, [])]
def am_c_Re_figures : List am_E := [(0, .aload_n 0, 1, 0, 0, 0, .null, []),
  (1, .aload_n 0, 1, 0, 0, 0, .null, []),
  (2, .bipush 7, 2, 0, 0, 0, .int 7, []),
  (4, .invokevirtual 94, 3, 48, 1, 7, .null, []),
  (7, .putfield 9, 3, 5, 0, 0, .null, []),
  (10, .aload_n 0, 1, 0, 0, 0, .null, []),
  (11, .getfield 9, 3, 5, 0, 0, .null, []),
  (14, .ifCond .eq 10, 3, 24, 0, 0, .null, []),
  (17, .aload_n 0, 1, 0, 0, 0, .null, []),
  (18, .invokevirtual 98, 3, 49, 0, 7, .null, []),
  (21, .ifCond .eq 16, 3, 37, 0, 0, .null, []),
  (24, .aload_n 0, 1, 0, 0, 0, .null, []),
  (25, .getfield 9, 3, 5, 0, 0, .null, []),
  (28, .ifCond .eq 7, 3, 35, 0, 0, .null, []),
  (31, .iconst 1, 1, 0, 0, 0, .int 1, []),
  (32, .goto 4, 3, 36, 0, 0, .null, []),
  (35, .iconst 0, 1, 0, 0, 0, .int 0, []),
  (36, .ireturn, 1, 0, 0, 0, .null, []),
  (37, .aload_n 0, 1, 0, 0, 0, .null, []),
  (38, .bipush 58, 2, 0, 0, 0, .int 58, []),
  (40, .invokevirtual 110, 3, 47, 1, 7, .null, []),
  (43, .ifCond .ne 5, 3, 48, 0, 0, .null, []),
  (46, .iconst 0, 1, 0, 0, 0, .int 0, []),
  (47, .ireturn, 1, 0, 0, 0, .null, []),
  (48, .iconst 0, 1, 0, 0, 0, .int 0, []),
  (49, .istore_n 1, 1, 0, 0, 0, .null, []),
  (50, .iload_n 1, 1, 0, 0, 0, .null, [(0, 0)]),
  (51, .bipush 12, 2, 0, 0, 0, .int 12, []),
  (53, .if_icmp .gt 32, 3, 85, 0, 0, .null, []),
  (56, .aload_n 0, 1, 0, 0, 0, .null, []),
  (57, .invokevirtual 129, 3, 61, 0, 7, .null, []),
  (60, .ifCond .ne 5, 3, 65, 0, 0, .null, []),
  (63, .iconst 0, 1, 0, 0, 0, .int 0, []),
  (64, .ireturn, 1, 0, 0, 0, .null, []),
  (65, .aload_n 0, 1, 0, 0, 0, .null, []),
  (66, .bipush 44, 2, 0, 0, 0, .int 44, []),
  (68, .invokevirtual 110, 3, 47, 1, 7, .null, []),
  (71, .ifCond .ne 8, 3, 79, 0, 0, .null, []),
  (74, .aload_n 0, 1, 0, 0, 0, .null, []),
  (75, .invokevirtual 98, 3, 49, 0, 7, .null, []),
  (78, .ireturn, 1, 0, 0, 0, .null, []),
  (79, .iinc 1 1, 3, 0, 0, 0, .int 1, []),
  (82, .goto (-32), 3, 50, 0, 0, .null, []),
  (85, .iconst 0, 1, 0, 0, 0, .int 0, []),
  (86, .ireturn, 1, 0, 0, 0, .null, [])]
def am_c_Re_isGroupTold_1 : List am_E := [(93, .iload_n 1, 1, 0, 0, 0, .null, []),
  (94, .iconst 1, 1, 0, 0, 0, .int 1, []),
  (95, .iload_n 2, 1, 0, 0, 0, .null, []),
  (96, .ishl, 1, 0, 0, 0, .null, []),
  (97, .ior, 1, 0, 0, 0, .null, []),
  (98, .istore_n 1, 1, 0, 0, 0, .null, []),
  (99, .aload_n 0, 1, 0, 0, 0, .null, []),
  (100, .dup, 1, 0, 0, 0, .null, []),
  (101, .getfield 35, 3, 5, 6, 0, .null, []),
  (104, .iconst 1, 1, 0, 0, 0, .int 1, []),
  (105, .iadd, 1, 0, 0, 0, .null, []),
  (106, .putfield 35, 3, 5, 6, 0, .null, []),
  (109, .goto (-91), 3, 18, 0, 0, .null, []),
  (112, .aload_n 0, 1, 0, 0, 0, .null, []),
  (113, .invokevirtual 38, 3, 46, 0, 7, .null, []),
  (116, .pop, 1, 0, 0, 0, .null, []),
  (117, .iload_n 1, 1, 0, 0, 0, .null, []),
  (118, .ifCond .eq 11, 3, 129, 0, 0, .null, []),
  (121, .aload_n 0, 1, 0, 0, 0, .null, []),
  (122, .iload_n 1, 1, 0, 0, 0, .null, []),
  (123, .invokevirtual 90, 3, 50, 1, 7, .null, []),
  (126, .ifCond .eq 5, 3, 131, 0, 0, .null, []),
  (129, .iconst 0, 1, 0, 0, 0, .int 0, []),
  (130, .ireturn, 1, 0, 0, 0, .null, []),
  (131, .aload_n 0, 1, 0, 0, 0, .null, []),
  (132, .iload_n 1, 1, 0, 0, 0, .null, []),
  (133, .invokevirtual 106, 3, 51, 1, 7, .null, []),
  (136, .iconst 1, 1, 0, 0, 0, .int 1, []),
  (137, .ireturn, 1, 0, 0, 0, .null, [])]
def am_c_Re_isGroupTold : List am_E := (0, .aload_n 0, 1, 0, 0, 0, .null, []) ::
  (1, .invokevirtual 38, 3, 46, 0, 7, .null, []) ::
  (4, .pop, 1, 0, 0, 0, .null, []) ::
  (5, .aload_n 0, 1, 0, 0, 0, .null, []) ::
  (6, .getfield 15, 3, 5, 1, 0, .null, []) ::
  (9, .bipush 12, 2, 0, 0, 0, .int 12, []) ::
  (11, .if_icmp .lt 5, 3, 16, 0, 0, .null, []) ::
  (14, .iconst 0, 1, 0, 0, 0, .int 0, []) ::
  (15, .ireturn, 1, 0, 0, 0, .null, []) ::
  (16, .iconst 0, 1, 0, 0, 0, .int 0, []) ::
  (17, .istore_n 1, 1, 0, 0, 0, .null, []) ::
  (18, .aload_n 0, 1, 0, 0, 0, .null, [(0, 0)]) ::
  (19, .getfield 25, 3, 5, 3, 2, .null, []) ::
  (22, .aload_n 0, 1, 0, 0, 0, .null, []) ::
  (23, .getfield 35, 3, 5, 6, 0, .null, []) ::
  (26, .invokevirtual 78, 3, 96, 1, 11, .null, []) ::
  (29, .bipush 48, 2, 0, 0, 0, .int 48, []) ::
  (31, .if_icmp .lt 81, 3, 112, 0, 0, .null, []) ::
  (34, .aload_n 0, 1, 0, 0, 0, .null, []) ::
  (35, .getfield 25, 3, 5, 3, 2, .null, []) ::
  (38, .aload_n 0, 1, 0, 0, 0, .null, []) ::
  (39, .getfield 35, 3, 5, 6, 0, .null, []) ::
  (42, .invokevirtual 78, 3, 96, 1, 11, .null, []) ::
  (45, .bipush 57, 2, 0, 0, 0, .int 57, []) ::
  (47, .if_icmp .gt 65, 3, 112, 0, 0, .null, []) ::
  (50, .aload_n 0, 1, 0, 0, 0, .null, []) ::
  (51, .getfield 35, 3, 5, 6, 0, .null, []) ::
  (54, .bipush 90, 2, 0, 0, 0, .int 90, []) ::
  (56, .if_icmp .ge 56, 3, 112, 0, 0, .null, []) ::
  (59, .aload_n 0, 1, 0, 0, 0, .null, []) ::
  (60, .getfield 25, 3, 5, 3, 2, .null, []) ::
  (63, .aload_n 0, 1, 0, 0, 0, .null, []) ::
  (64, .getfield 35, 3, 5, 6, 0, .null, []) ::
  (67, .invokevirtual 78, 3, 96, 1, 11, .null, []) ::
  (70, .bipush 48, 2, 0, 0, 0, .int 48, []) ::
  (72, .isub, 1, 0, 0, 0, .null, []) ::
  (73, .istore_n 2, 1, 0, 0, 0, .null, []) ::
  (74, .iload_n 2, 1, 0, 0, 0, .null, []) ::
  (75, .aload_n 0, 1, 0, 0, 0, .null, []) ::
  (76, .getfield 9, 3, 5, 0, 0, .null, []) ::
  (79, .if_icmp .ge 12, 3, 91, 0, 0, .null, []) ::
  (82, .iload_n 1, 1, 0, 0, 0, .null, []) ::
  (83, .iload_n 2, 1, 0, 0, 0, .null, []) ::
  (84, .ishr, 1, 0, 0, 0, .null, []) ::
  (85, .iconst 1, 1, 0, 0, 0, .int 1, []) ::
  (86, .iand, 1, 0, 0, 0, .null, []) ::
  (87, .iconst 1, 1, 0, 0, 0, .int 1, []) ::
  (88, .if_icmp .ne 5, 3, 93, 0, 0, .null, []) ::
  (91, .iconst 0, 1, 0, 0, 0, .int 0, []) ::
  (92, .ireturn, 1, 0, 0, 0, .null, []) :: am_c_Re_isGroupTold_1
def am_c_Ro_init : List am_E := [(0, .aload_n 0, 1, 0, 0, 0, .null, []),
  (1, .invokespecial 3, 3, 0, 0, 1, .null, []),
  (4, .aload_n 0, 1, 0, 0, 0, .null, []),
  (5, .bipush 12, 2, 0, 0, 0, .int 12, []),
  (7, .newarray .int, 2, 14, 0, 0, .null, []),
  (9, .putfield 9, 3, 6, 0, 2, .null, []),
  (12, .aload_n 0, 1, 0, 0, 0, .null, []),
  (13, .iconst 0, 1, 0, 0, 0, .int 0, []),
  (14, .putfield 15, 3, 6, 1, 0, .null, []),
  (17, .return_, 1, 0, 0, 0, .null, [])]
def am_c_Ro_takes : List am_E := [(0, .aload_n 0, 1, 0, 0, 0, .null, []),
  (1, .iload_n 3, 1, 0, 0, 0, .null, []),
  (2, .bipush 12, 2, 0, 0, 0, .int 12, []),
  (4, .invokestatic 19, 3, 0, 2, 4, .null, []),
  (7, .putfield 15, 3, 6, 1, 0, .null, []),
  (10, .iconst 0, 1, 0, 0, 0, .int 0, []),
  (11, .istore 6, 2, 0, 0, 0, .null, []),
  (13, .iload 6, 2, 0, 0, 0, .null, [(0, 0)]),
  (15, .aload_n 0, 1, 0, 0, 0, .null, []),
  (16, .getfield 15, 3, 6, 1, 0, .null, []),
  (19, .if_icmp .ge 49, 3, 68, 0, 0, .null, []),
  (22, .aload_n 1, 1, 0, 0, 0, .null, []),
  (23, .iload_n 2, 1, 0, 0, 0, .null, []),
  (24, .iload 6, 2, 0, 0, 0, .null, []),
  (26, .iadd, 1, 0, 0, 0, .null, []),
  (27, .invokevirtual 25, 3, 75, 1, 9, .null, []),
  (30, .lstore 7, 2, 0, 0, 0, .null, []),
  (32, .lload 7, 2, 0, 0, 0, .null, []),
  (34, .iload 4, 2, 0, 0, 0, .null, []),
  (36, .i2l, 1, 0, 0, 0, .null, []),
  (37, .lcmp, 1, 0, 0, 0, .null, []),
  (38, .ifCond .lt 12, 3, 50, 0, 0, .null, []),
  (41, .lload 7, 2, 0, 0, 0, .null, []),
  (43, .iload 5, 2, 0, 0, 0, .null, []),
  (45, .i2l, 1, 0, 0, 0, .null, []),
  (46, .lcmp, 1, 0, 0, 0, .null, []),
  (47, .ifCond .le 5, 3, 52, 0, 0, .null, []),
  (50, .iconst 0, 1, 0, 0, 0, .int 0, []),
  (51, .ireturn, 1, 0, 0, 0, .null, []),
  (52, .aload_n 0, 1, 0, 0, 0, .null, []),
  (53, .getfield 9, 3, 6, 0, 2, .null, []),
  (56, .iload 6, 2, 0, 0, 0, .null, []),
  (58, .lload 7, 2, 0, 0, 0, .null, []),
  (60, .l2i, 1, 0, 0, 0, .null, []),
  (61, .iastore, 1, 0, 0, 0, .null, []),
  (62, .iinc 6 1, 3, 0, 0, 0, .int 1, []),
  (65, .goto (-52), 3, 13, 0, 0, .null, []),
  (68, .iconst 1, 1, 0, 0, 0, .int 1, []),
  (69, .ireturn, 1, 0, 0, 0, .null, [])]
def am_c_Ro_nature : List am_E := [(0, .aload_n 0, 1, 0, 0, 0, .null, []),
  (1, .invokevirtual 31, 3, 65, 0, 8, .null, []),
  (4, .ifCond .eq 7, 3, 11, 0, 0, .null, []),
  (7, .iconst 1, 1, 0, 0, 0, .int 1, []),
  (8, .goto 4, 3, 12, 0, 0, .null, []),
  (11, .iconst 0, 1, 0, 0, 0, .int 0, []),
  (12, .istore_n 2, 1, 0, 0, 0, .null, []),
  (13, .iload_n 2, 1, 0, 0, 0, .null, []),
  (14, .aload_n 0, 1, 0, 0, 0, .null, []),
  (15, .invokevirtual 35, 3, 66, 0, 8, .null, []),
  (18, .ifCond .eq 7, 3, 25, 0, 0, .null, []),
  (21, .iconst 2, 1, 0, 0, 0, .int 2, []),
  (22, .goto 4, 3, 26, 0, 0, .null, []),
  (25, .iconst 0, 1, 0, 0, 0, .int 0, []),
  (26, .ior, 1, 0, 0, 0, .null, []),
  (27, .istore_n 2, 1, 0, 0, 0, .null, []),
  (28, .iload_n 2, 1, 0, 0, 0, .null, []),
  (29, .aload_n 0, 1, 0, 0, 0, .null, []),
  (30, .invokevirtual 38, 3, 67, 0, 8, .null, []),
  (33, .ifCond .eq 7, 3, 40, 0, 0, .null, []),
  (36, .iconst 4, 1, 0, 0, 0, .int 4, []),
  (37, .goto 4, 3, 41, 0, 0, .null, []),
  (40, .iconst 0, 1, 0, 0, 0, .int 0, []),
  (41, .ior, 1, 0, 0, 0, .null, []),
  (42, .istore_n 2, 1, 0, 0, 0, .null, []),
  (43, .iload_n 2, 1, 0, 0, 0, .null, []),
  (44, .aload_n 0, 1, 0, 0, 0, .null, []),
  (45, .aload_n 1, 1, 0, 0, 0, .null, []),
  (46, .getfield 41, 3, 8, 0, 0, .null, []),
  (49, .invokevirtual 46, 3, 68, 1, 8, .null, []),
  (52, .ifCond .eq 8, 3, 60, 0, 0, .null, []),
  (55, .bipush 8, 2, 0, 0, 0, .int 8, []),
  (57, .goto 4, 3, 61, 0, 0, .null, []),
  (60, .iconst 0, 1, 0, 0, 0, .int 0, []),
  (61, .ior, 1, 0, 0, 0, .null, []),
  (62, .istore_n 2, 1, 0, 0, 0, .null, []),
  (63, .iload_n 2, 1, 0, 0, 0, .null, []),
  (64, .aload_n 0, 1, 0, 0, 0, .null, []),
  (65, .aload_n 1, 1, 0, 0, 0, .null, []),
  (66, .invokevirtual 50, 3, 70, 1, 8, .null, []),
  (69, .ifCond .eq 8, 3, 77, 0, 0, .null, []),
  (72, .bipush 16, 2, 0, 0, 0, .int 16, []),
  (74, .goto 4, 3, 78, 0, 0, .null, []),
  (77, .iconst 0, 1, 0, 0, 0, .int 0, []),
  (78, .ior, 1, 0, 0, 0, .null, []),
  (79, .ireturn, 1, 0, 0, 0, .null, [])]
def am_c_Ro_anyTwoMeet : List am_E := [(0, .iconst 0, 1, 0, 0, 0, .int 0, []),
  (1, .istore_n 1, 1, 0, 0, 0, .null, []),
  (2, .iload_n 1, 1, 0, 0, 0, .null, [(0, 0)]),
  (3, .aload_n 0, 1, 0, 0, 0, .null, []),
  (4, .getfield 15, 3, 6, 1, 0, .null, []),
  (7, .if_icmp .ge 40, 3, 47, 0, 0, .null, []),
  (10, .iconst 0, 1, 0, 0, 0, .int 0, []),
  (11, .istore_n 2, 1, 0, 0, 0, .null, []),
  (12, .iload_n 2, 1, 0, 0, 0, .null, [(0, 0)]),
  (13, .iload_n 1, 1, 0, 0, 0, .null, []),
  (14, .if_icmp .ge 27, 3, 41, 0, 0, .null, []),
  (17, .aload_n 0, 1, 0, 0, 0, .null, []),
  (18, .getfield 9, 3, 6, 0, 2, .null, []),
  (21, .iload_n 1, 1, 0, 0, 0, .null, []),
  (22, .iaload, 1, 0, 0, 0, .null, []),
  (23, .aload_n 0, 1, 0, 0, 0, .null, []),
  (24, .getfield 9, 3, 6, 0, 2, .null, []),
  (27, .iload_n 2, 1, 0, 0, 0, .null, []),
  (28, .iaload, 1, 0, 0, 0, .null, []),
  (29, .iand, 1, 0, 0, 0, .null, []),
  (30, .ifCond .ne 5, 3, 35, 0, 0, .null, []),
  (33, .iconst 0, 1, 0, 0, 0, .int 0, []),
  (34, .ireturn, 1, 0, 0, 0, .null, []),
  (35, .iinc 2 1, 3, 0, 0, 0, .int 1, []),
  (38, .goto (-26), 3, 12, 0, 0, .null, []),
  (41, .iinc 1 1, 3, 0, 0, 0, .int 1, []),
  (44, .goto (-42), 3, 2, 0, 0, .null, []),
  (47, .iconst 1, 1, 0, 0, 0, .int 1, []),
  (48, .ireturn, 1, 0, 0, 0, .null, [])]
def am_c_Ro_isNonePart : List am_E := [(0, .iconst 0, 1, 0, 0, 0, .int 0, []),
  (1, .istore_n 1, 1, 0, 0, 0, .null, []),
  (2, .iload_n 1, 1, 0, 0, 0, .null, [(0, 0)]),
  (3, .aload_n 0, 1, 0, 0, 0, .null, []),
  (4, .getfield 15, 3, 6, 1, 0, .null, []),
  (7, .if_icmp .ge 50, 3, 57, 0, 0, .null, []),
  (10, .iconst 0, 1, 0, 0, 0, .int 0, []),
  (11, .istore_n 2, 1, 0, 0, 0, .null, []),
  (12, .iload_n 2, 1, 0, 0, 0, .null, [(0, 0)]),
  (13, .aload_n 0, 1, 0, 0, 0, .null, []),
  (14, .getfield 15, 3, 6, 1, 0, .null, []),
  (17, .if_icmp .ge 34, 3, 51, 0, 0, .null, []),
  (20, .iload_n 2, 1, 0, 0, 0, .null, []),
  (21, .iload_n 1, 1, 0, 0, 0, .null, []),
  (22, .if_icmp .eq 23, 3, 45, 0, 0, .null, []),
  (25, .aload_n 0, 1, 0, 0, 0, .null, []),
  (26, .getfield 9, 3, 6, 0, 2, .null, []),
  (29, .iload_n 2, 1, 0, 0, 0, .null, []),
  (30, .iaload, 1, 0, 0, 0, .null, []),
  (31, .aload_n 0, 1, 0, 0, 0, .null, []),
  (32, .getfield 9, 3, 6, 0, 2, .null, []),
  (35, .iload_n 1, 1, 0, 0, 0, .null, []),
  (36, .iaload, 1, 0, 0, 0, .null, []),
  (37, .iconst (-1), 1, 0, 0, 0, .int (-1), []),
  (38, .ixor, 1, 0, 0, 0, .null, []),
  (39, .iand, 1, 0, 0, 0, .null, []),
  (40, .ifCond .ne 5, 3, 45, 0, 0, .null, []),
  (43, .iconst 0, 1, 0, 0, 0, .int 0, []),
  (44, .ireturn, 1, 0, 0, 0, .null, []),
  (45, .iinc 2 1, 3, 0, 0, 0, .int 1, []),
  (48, .goto (-36), 3, 12, 0, 0, .null, []),
  (51, .iinc 1 1, 3, 0, 0, 0, .int 1, []),
  (54, .goto (-52), 3, 2, 0, 0, .null, []),
  (57, .iconst 1, 1, 0, 0, 0, .int 1, []),
  (58, .ireturn, 1, 0, 0, 0, .null, [])]
def am_c_Ro_isOneCount : List am_E := [(0, .iconst 1, 1, 0, 0, 0, .int 1, []),
  (1, .istore_n 1, 1, 0, 0, 0, .null, []),
  (2, .iload_n 1, 1, 0, 0, 0, .null, [(0, 0)]),
  (3, .aload_n 0, 1, 0, 0, 0, .null, []),
  (4, .getfield 15, 3, 6, 1, 0, .null, []),
  (7, .if_icmp .ge 32, 3, 39, 0, 0, .null, []),
  (10, .aload_n 0, 1, 0, 0, 0, .null, []),
  (11, .getfield 9, 3, 6, 0, 2, .null, []),
  (14, .iload_n 1, 1, 0, 0, 0, .null, []),
  (15, .iaload, 1, 0, 0, 0, .null, []),
  (16, .invokestatic 54, 3, 0, 1, 0, .null, []),
  (19, .aload_n 0, 1, 0, 0, 0, .null, []),
  (20, .getfield 9, 3, 6, 0, 2, .null, []),
  (23, .iconst 0, 1, 0, 0, 0, .int 0, []),
  (24, .iaload, 1, 0, 0, 0, .null, []),
  (25, .invokestatic 54, 3, 0, 1, 0, .null, []),
  (28, .if_icmp .eq 5, 3, 33, 0, 0, .null, []),
  (31, .iconst 0, 1, 0, 0, 0, .int 0, []),
  (32, .ireturn, 1, 0, 0, 0, .null, []),
  (33, .iinc 1 1, 3, 0, 0, 0, .int 1, []),
  (36, .goto (-34), 3, 2, 0, 0, .null, []),
  (39, .iconst 1, 1, 0, 0, 0, .int 1, []),
  (40, .ireturn, 1, 0, 0, 0, .null, [])]
def am_c_Ro_isEven : List am_E := [(0, .iconst 1, 1, 0, 0, 0, .int 1, []),
  (1, .istore_n 2, 1, 0, 0, 0, .null, []),
  (2, .iload_n 2, 1, 0, 0, 0, .null, [(0, 0)]),
  (3, .iload_n 1, 1, 0, 0, 0, .null, []),
  (4, .if_icmp .ge 24, 3, 28, 0, 0, .null, []),
  (7, .aload_n 0, 1, 0, 0, 0, .null, []),
  (8, .iload_n 2, 1, 0, 0, 0, .null, []),
  (9, .invokevirtual 60, 3, 69, 1, 8, .null, []),
  (12, .aload_n 0, 1, 0, 0, 0, .null, []),
  (13, .iconst 0, 1, 0, 0, 0, .int 0, []),
  (14, .invokevirtual 60, 3, 69, 1, 8, .null, []),
  (17, .if_icmp .eq 5, 3, 22, 0, 0, .null, []),
  (20, .iconst 0, 1, 0, 0, 0, .int 0, []),
  (21, .ireturn, 1, 0, 0, 0, .null, []),
  (22, .iinc 2 1, 3, 0, 0, 0, .int 1, []),
  (25, .goto (-23), 3, 2, 0, 0, .null, []),
  (28, .iconst 1, 1, 0, 0, 0, .int 1, []),
  (29, .ireturn, 1, 0, 0, 0, .null, [])]
def am_c_Ro_timesOf : List am_E := [(0, .iconst 0, 1, 0, 0, 0, .int 0, []),
  (1, .istore_n 2, 1, 0, 0, 0, .null, []),
  (2, .iconst 0, 1, 0, 0, 0, .int 0, []),
  (3, .istore_n 3, 1, 0, 0, 0, .null, []),
  (4, .iload_n 3, 1, 0, 0, 0, .null, [(0, 0)]),
  (5, .aload_n 0, 1, 0, 0, 0, .null, []),
  (6, .getfield 15, 3, 6, 1, 0, .null, []),
  (9, .if_icmp .ge 22, 3, 31, 0, 0, .null, []),
  (12, .iload_n 2, 1, 0, 0, 0, .null, []),
  (13, .aload_n 0, 1, 0, 0, 0, .null, []),
  (14, .getfield 9, 3, 6, 0, 2, .null, []),
  (17, .iload_n 3, 1, 0, 0, 0, .null, []),
  (18, .iaload, 1, 0, 0, 0, .null, []),
  (19, .iload_n 1, 1, 0, 0, 0, .null, []),
  (20, .ishr, 1, 0, 0, 0, .null, []),
  (21, .iconst 1, 1, 0, 0, 0, .int 1, []),
  (22, .iand, 1, 0, 0, 0, .null, []),
  (23, .iadd, 1, 0, 0, 0, .null, []),
  (24, .istore_n 2, 1, 0, 0, 0, .null, []),
  (25, .iinc 3 1, 3, 0, 0, 0, .int 1, []),
  (28, .goto (-24), 3, 4, 0, 0, .null, []),
  (31, .iload_n 2, 1, 0, 0, 0, .null, []),
  (32, .ireturn, 1, 0, 0, 0, .null, [])]
def am_c_Ro_isJustGroups : List am_E := [(0, .iconst 0, 1, 0, 0, 0, .int 0, []),
  (1, .istore_n 2, 1, 0, 0, 0, .null, []),
  (2, .iconst 0, 1, 0, 0, 0, .int 0, []),
  (3, .istore_n 3, 1, 0, 0, 0, .null, []),
  (4, .iload_n 3, 1, 0, 0, 0, .null, [(0, 0)]),
  (5, .aload_n 0, 1, 0, 0, 0, .null, []),
  (6, .getfield 15, 3, 6, 1, 0, .null, []),
  (9, .if_icmp .ge 35, 3, 44, 0, 0, .null, []),
  (12, .aload_n 1, 1, 0, 0, 0, .null, []),
  (13, .aload_n 0, 1, 0, 0, 0, .null, []),
  (14, .getfield 9, 3, 6, 0, 2, .null, []),
  (17, .iload_n 3, 1, 0, 0, 0, .null, []),
  (18, .iaload, 1, 0, 0, 0, .null, []),
  (19, .invokevirtual 63, 3, 85, 1, 10, .null, []),
  (22, .istore 4, 2, 0, 0, 0, .null, []),
  (24, .iload 4, 2, 0, 0, 0, .null, []),
  (26, .ifCond .ge 5, 3, 31, 0, 0, .null, []),
  (29, .iconst 0, 1, 0, 0, 0, .int 0, []),
  (30, .ireturn, 1, 0, 0, 0, .null, []),
  (31, .iload_n 2, 1, 0, 0, 0, .null, []),
  (32, .iconst 1, 1, 0, 0, 0, .int 1, []),
  (33, .iload 4, 2, 0, 0, 0, .null, []),
  (35, .ishl, 1, 0, 0, 0, .null, []),
  (36, .ior, 1, 0, 0, 0, .null, []),
  (37, .istore_n 2, 1, 0, 0, 0, .null, []),
  (38, .iinc 3 1, 3, 0, 0, 0, .int 1, []),
  (41, .goto (-37), 3, 4, 0, 0, .null, []),
  (44, .aload_n 0, 1, 0, 0, 0, .null, []),
  (45, .getfield 15, 3, 6, 1, 0, .null, []),
  (48, .aload_n 1, 1, 0, 0, 0, .null, []),
  (49, .getfield 66, 3, 8, 1, 0, .null, []),
  (52, .if_icmp .ne 18, 3, 70, 0, 0, .null, []),
  (55, .iload_n 2, 1, 0, 0, 0, .null, []),
  (56, .invokestatic 54, 3, 0, 1, 0, .null, []),
  (59, .aload_n 0, 1, 0, 0, 0, .null, []),
  (60, .getfield 15, 3, 6, 1, 0, .null, []),
  (63, .if_icmp .ne 7, 3, 70, 0, 0, .null, []),
  (66, .iconst 1, 1, 0, 0, 0, .int 1, []),
  (67, .goto 4, 3, 71, 0, 0, .null, []),
  (70, .iconst 0, 1, 0, 0, 0, .int 0, []),
  (71, .ireturn, 1, 0, 0, 0, .null, [])]
def am_c_Sh_init : List am_E := [(0, .aload_n 0, 1, 0, 0, 0, .null, []),
  (1, .invokespecial 3, 3, 0, 0, 1, .null, []),
  (4, .aload_n 0, 1, 0, 0, 0, .null, []),
  (5, .iconst 0, 1, 0, 0, 0, .int 0, []),
  (6, .putfield 9, 3, 7, 0, 1, .null, []),
  (9, .aload_n 0, 1, 0, 0, 0, .null, []),
  (10, .iconst 0, 1, 0, 0, 0, .int 0, []),
  (11, .putfield 15, 3, 7, 1, 0, .null, []),
  (14, .aload_n 0, 1, 0, 0, 0, .null, []),
  (15, .iconst 0, 1, 0, 0, 0, .int 0, []),
  (16, .putfield 19, 3, 7, 2, 0, .null, []),
  (19, .aload_n 0, 1, 0, 0, 0, .null, []),
  (20, .bipush 24, 2, 0, 0, 0, .int 24, []),
  (22, .newarray .long, 2, 15, 0, 0, .null, []),
  (24, .putfield 22, 3, 7, 3, 2, .null, []),
  (27, .return_, 1, 0, 0, 0, .null, [])]
def am_c_Sh_begin : List am_E := [(0, .aload_n 0, 1, 0, 0, 0, .null, []),
  (1, .iconst 1, 1, 0, 0, 0, .int 1, []),
  (2, .putfield 9, 3, 7, 0, 1, .null, []),
  (5, .aload_n 0, 1, 0, 0, 0, .null, []),
  (6, .iload_n 1, 1, 0, 0, 0, .null, []),
  (7, .putfield 15, 3, 7, 1, 0, .null, []),
  (10, .aload_n 0, 1, 0, 0, 0, .null, []),
  (11, .iload_n 2, 1, 0, 0, 0, .null, []),
  (12, .bipush 24, 2, 0, 0, 0, .int 24, []),
  (14, .invokestatic 26, 3, 0, 2, 4, .null, []),
  (17, .putfield 19, 3, 7, 2, 0, .null, []),
  (20, .iconst 0, 1, 0, 0, 0, .int 0, []),
  (21, .istore_n 3, 1, 0, 0, 0, .null, []),
  (22, .iload_n 3, 1, 0, 0, 0, .null, [(0, 0)]),
  (23, .bipush 24, 2, 0, 0, 0, .int 24, []),
  (25, .if_icmp .ge 16, 3, 41, 0, 0, .null, []),
  (28, .aload_n 0, 1, 0, 0, 0, .null, []),
  (29, .getfield 22, 3, 7, 3, 2, .null, []),
  (32, .iload_n 3, 1, 0, 0, 0, .null, []),
  (33, .lconst 0, 1, 0, 0, 0, .long 0, []),
  (34, .lastore, 1, 0, 0, 0, .null, []),
  (35, .iinc 3 1, 3, 0, 0, 0, .int 1, []),
  (38, .goto (-16), 3, 22, 0, 0, .null, []),
  (41, .return_, 1, 0, 0, 0, .null, [])]
def am_c_Sh_spans : List am_E := [(0, .iload_n 1, 1, 0, 0, 0, .null, []),
  (1, .ifCond .lt 29, 3, 30, 0, 0, .null, []),
  (4, .iload_n 1, 1, 0, 0, 0, .null, []),
  (5, .aload_n 0, 1, 0, 0, 0, .null, []),
  (6, .getfield 19, 3, 7, 2, 0, .null, []),
  (9, .if_icmp .gt 21, 3, 30, 0, 0, .null, []),
  (12, .iload_n 2, 1, 0, 0, 0, .null, []),
  (13, .ifCond .lt 17, 3, 30, 0, 0, .null, []),
  (16, .iload_n 2, 1, 0, 0, 0, .null, []),
  (17, .aload_n 0, 1, 0, 0, 0, .null, []),
  (18, .getfield 19, 3, 7, 2, 0, .null, []),
  (21, .iload_n 1, 1, 0, 0, 0, .null, []),
  (22, .isub, 1, 0, 0, 0, .null, []),
  (23, .if_icmp .gt 7, 3, 30, 0, 0, .null, []),
  (26, .iconst 1, 1, 0, 0, 0, .int 1, []),
  (27, .goto 4, 3, 31, 0, 0, .null, []),
  (30, .iconst 0, 1, 0, 0, 0, .int 0, []),
  (31, .ireturn, 1, 0, 0, 0, .null, [])]
def am_c_Sh_refusal : List am_E := [(0, .aload_n 0, 1, 0, 0, 0, .null, []),
  (1, .getfield 9, 3, 7, 0, 1, .null, []),
  (4, .ifCond .ne 6, 3, 10, 0, 0, .null, []),
  (7, .bipush (-11), 2, 0, 0, 0, .int (-11), []),
  (9, .ireturn, 1, 0, 0, 0, .null, []),
  (10, .aload_n 0, 1, 0, 0, 0, .null, []),
  (11, .getfield 15, 3, 7, 1, 0, .null, []),
  (14, .iload_n 1, 1, 0, 0, 0, .null, []),
  (15, .if_icmp .eq 6, 3, 21, 0, 0, .null, []),
  (18, .bipush (-12), 2, 0, 0, 0, .int (-12), []),
  (20, .ireturn, 1, 0, 0, 0, .null, []),
  (21, .aload_n 0, 1, 0, 0, 0, .null, []),
  (22, .iload_n 2, 1, 0, 0, 0, .null, []),
  (23, .iload_n 3, 1, 0, 0, 0, .null, []),
  (24, .invokevirtual 32, 3, 73, 2, 9, .null, []),
  (27, .ifCond .eq 7, 3, 34, 0, 0, .null, []),
  (30, .iconst 0, 1, 0, 0, 0, .int 0, []),
  (31, .goto 5, 3, 36, 0, 0, .null, []),
  (34, .bipush (-13), 2, 0, 0, 0, .int (-13), []),
  (36, .ireturn, 1, 0, 0, 0, .null, [])]
def am_c_Sh_at : List am_E := [(0, .iload_n 1, 1, 0, 0, 0, .null, []),
  (1, .ifCond .lt 20, 3, 21, 0, 0, .null, []),
  (4, .iload_n 1, 1, 0, 0, 0, .null, []),
  (5, .aload_n 0, 1, 0, 0, 0, .null, []),
  (6, .getfield 19, 3, 7, 2, 0, .null, []),
  (9, .if_icmp .ge 12, 3, 21, 0, 0, .null, []),
  (12, .aload_n 0, 1, 0, 0, 0, .null, []),
  (13, .getfield 22, 3, 7, 3, 2, .null, []),
  (16, .iload_n 1, 1, 0, 0, 0, .null, []),
  (17, .laload, 1, 0, 0, 0, .null, []),
  (18, .goto 4, 3, 22, 0, 0, .null, []),
  (21, .lconst 0, 1, 0, 0, 0, .long 0, []),
  (22, .lreturn, 1, 0, 0, 0, .null, [])]
def am_c_Sh_put : List am_E := [(0, .iload_n 1, 1, 0, 0, 0, .null, []),
  (1, .ifCond .lt 22, 3, 23, 0, 0, .null, []),
  (4, .iload_n 1, 1, 0, 0, 0, .null, []),
  (5, .aload_n 0, 1, 0, 0, 0, .null, []),
  (6, .getfield 19, 3, 7, 2, 0, .null, []),
  (9, .if_icmp .ge 14, 3, 23, 0, 0, .null, []),
  (12, .aload_n 0, 1, 0, 0, 0, .null, []),
  (13, .getfield 22, 3, 7, 3, 2, .null, []),
  (16, .iload_n 1, 1, 0, 0, 0, .null, []),
  (17, .aload_n 0, 1, 0, 0, 0, .null, []),
  (18, .lload_n 2, 1, 0, 0, 0, .null, []),
  (19, .invokevirtual 36, 3, 77, 1, 9, .null, []),
  (22, .lastore, 1, 0, 0, 0, .null, []),
  (23, .return_, 1, 0, 0, 0, .null, [])]
def am_c_Sh_lowestBits : List am_E := [(0, .aload_n 0, 1, 0, 0, 0, .null, []),
  (1, .getfield 15, 3, 7, 1, 0, .null, []),
  (4, .tableswitch 42 0 2 #[28, 33, 38], 28, 46, 0, 0, .null, [(0, 32), (1, 37), (2, 42)]),
  (32, .lload_n 1, 1, 0, 0, 0, .null, []),
  (33, .l2i, 1, 0, 0, 0, .null, []),
  (34, .i2b, 1, 0, 0, 0, .null, []),
  (35, .i2l, 1, 0, 0, 0, .null, []),
  (36, .lreturn, 1, 0, 0, 0, .null, []),
  (37, .lload_n 1, 1, 0, 0, 0, .null, []),
  (38, .l2i, 1, 0, 0, 0, .null, []),
  (39, .i2s, 1, 0, 0, 0, .null, []),
  (40, .i2l, 1, 0, 0, 0, .null, []),
  (41, .lreturn, 1, 0, 0, 0, .null, []),
  (42, .lload_n 1, 1, 0, 0, 0, .null, []),
  (43, .l2i, 1, 0, 0, 0, .null, []),
  (44, .i2l, 1, 0, 0, 0, .null, []),
  (45, .lreturn, 1, 0, 0, 0, .null, []),
  (46, .lload_n 1, 1, 0, 0, 0, .null, []),
  (47, .lreturn, 1, 0, 0, 0, .null, [])]
def am_c_St_init : List am_E := [(0, .aload_n 0, 1, 0, 0, 0, .null, []),
  (1, .invokespecial 3, 3, 0, 0, 1, .null, []),
  (4, .aload_n 0, 1, 0, 0, 0, .null, []),
  (5, .iconst 3, 1, 0, 0, 0, .int 3, []),
  (6, .putfield 9, 3, 8, 0, 0, .null, []),
  (9, .aload_n 0, 1, 0, 0, 0, .null, []),
  (10, .iconst 0, 1, 0, 0, 0, .int 0, []),
  (11, .putfield 15, 3, 8, 1, 0, .null, []),
  (14, .aload_n 0, 1, 0, 0, 0, .null, []),
  (15, .bipush 12, 2, 0, 0, 0, .int 12, []),
  (17, .newarray .int, 2, 14, 0, 0, .null, []),
  (19, .putfield 18, 3, 8, 2, 2, .null, []),
  (22, .aload_n 0, 1, 0, 0, 0, .null, []),
  (23, .iconst 1, 1, 0, 0, 0, .int 1, []),
  (24, .putfield 22, 3, 8, 3, 0, .null, []),
  (27, .aload_n 0, 1, 0, 0, 0, .null, []),
  (28, .new 25, 3, 3, 0, 0, .null, []),
  (31, .dup, 1, 0, 0, 0, .null, []),
  (32, .invokespecial 27, 3, 23, 0, 2, .null, []),
  (35, .putfield 28, 3, 8, 4, 2, .null, []),
  (38, .return_, 1, 0, 0, 0, .null, [])]
def am_c_St_becomes : List am_E := [(0, .aload_n 0, 1, 0, 0, 0, .null, []),
  (1, .aload_n 1, 1, 0, 0, 0, .null, []),
  (2, .getfield 9, 3, 8, 0, 0, .null, []),
  (5, .putfield 9, 3, 8, 0, 0, .null, []),
  (8, .aload_n 0, 1, 0, 0, 0, .null, []),
  (9, .aload_n 1, 1, 0, 0, 0, .null, []),
  (10, .getfield 15, 3, 8, 1, 0, .null, []),
  (13, .putfield 15, 3, 8, 1, 0, .null, []),
  (16, .aload_n 0, 1, 0, 0, 0, .null, []),
  (17, .aload_n 1, 1, 0, 0, 0, .null, []),
  (18, .getfield 22, 3, 8, 3, 0, .null, []),
  (21, .putfield 22, 3, 8, 3, 0, .null, []),
  (24, .aload_n 1, 1, 0, 0, 0, .null, []),
  (25, .getfield 18, 3, 8, 2, 2, .null, []),
  (28, .iconst 0, 1, 0, 0, 0, .int 0, []),
  (29, .aload_n 0, 1, 0, 0, 0, .null, []),
  (30, .getfield 18, 3, 8, 2, 2, .null, []),
  (33, .iconst 0, 1, 0, 0, 0, .int 0, []),
  (34, .bipush 12, 2, 0, 0, 0, .int 12, []),
  (36, .invokestatic 32, 3, 0, 5, 1, .null, []),
  (39, .aload_n 0, 1, 0, 0, 0, .null, []),
  (40, .getfield 28, 3, 8, 4, 2, .null, []),
  (43, .aload_n 1, 1, 0, 0, 0, .null, []),
  (44, .getfield 28, 3, 8, 4, 2, .null, []),
  (47, .invokevirtual 38, 3, 24, 1, 5, .null, []),
  (50, .return_, 1, 0, 0, 0, .null, [])]
def am_c_St_becomesTold : List am_E := [(0, .aload_n 0, 1, 0, 0, 0, .null, []),
  (1, .aload_n 1, 1, 0, 0, 0, .null, []),
  (2, .getfield 42, 3, 5, 0, 0, .null, []),
  (5, .putfield 9, 3, 8, 0, 0, .null, []),
  (8, .aload_n 0, 1, 0, 0, 0, .null, []),
  (9, .aload_n 1, 1, 0, 0, 0, .null, []),
  (10, .getfield 45, 3, 5, 1, 0, .null, []),
  (13, .putfield 15, 3, 8, 1, 0, .null, []),
  (16, .aload_n 1, 1, 0, 0, 0, .null, []),
  (17, .getfield 46, 3, 5, 2, 2, .null, []),
  (20, .iconst 0, 1, 0, 0, 0, .int 0, []),
  (21, .aload_n 0, 1, 0, 0, 0, .null, []),
  (22, .getfield 18, 3, 8, 2, 2, .null, []),
  (25, .iconst 0, 1, 0, 0, 0, .int 0, []),
  (26, .bipush 12, 2, 0, 0, 0, .int 12, []),
  (28, .invokestatic 32, 3, 0, 5, 1, .null, []),
  (31, .return_, 1, 0, 0, 0, .null, [])]
def am_c_St_all : List am_E := [(0, .iconst 1, 1, 0, 0, 0, .int 1, []),
  (1, .aload_n 0, 1, 0, 0, 0, .null, []),
  (2, .getfield 9, 3, 8, 0, 0, .null, []),
  (5, .ishl, 1, 0, 0, 0, .null, []),
  (6, .iconst 1, 1, 0, 0, 0, .int 1, []),
  (7, .isub, 1, 0, 0, 0, .null, []),
  (8, .ireturn, 1, 0, 0, 0, .null, [])]
def am_c_St_isPart : List am_E := [(0, .iload_n 1, 1, 0, 0, 0, .null, []),
  (1, .ifCond .lt 15, 3, 16, 0, 0, .null, []),
  (4, .iload_n 1, 1, 0, 0, 0, .null, []),
  (5, .aload_n 0, 1, 0, 0, 0, .null, []),
  (6, .invokevirtual 47, 3, 81, 0, 10, .null, []),
  (9, .if_icmp .gt 7, 3, 16, 0, 0, .null, []),
  (12, .iconst 1, 1, 0, 0, 0, .int 1, []),
  (13, .goto 4, 3, 17, 0, 0, .null, []),
  (16, .iconst 0, 1, 0, 0, 0, .int 0, []),
  (17, .ireturn, 1, 0, 0, 0, .null, [])]
def am_c_St_isSet : List am_E := [(0, .iload_n 1, 1, 0, 0, 0, .null, []),
  (1, .ifCond .eq 15, 3, 16, 0, 0, .null, []),
  (4, .aload_n 0, 1, 0, 0, 0, .null, []),
  (5, .iload_n 1, 1, 0, 0, 0, .null, []),
  (6, .invokevirtual 51, 3, 82, 1, 10, .null, []),
  (9, .ifCond .eq 7, 3, 16, 0, 0, .null, []),
  (12, .iconst 1, 1, 0, 0, 0, .int 1, []),
  (13, .goto 4, 3, 17, 0, 0, .null, []),
  (16, .iconst 0, 1, 0, 0, 0, .int 0, []),
  (17, .ireturn, 1, 0, 0, 0, .null, [])]
def am_c_St_hasBeyond : List am_E := [(0, .iconst 0, 1, 0, 0, 0, .int 0, []),
  (1, .istore_n 2, 1, 0, 0, 0, .null, []),
  (2, .iload_n 2, 1, 0, 0, 0, .null, [(0, 0)]),
  (3, .aload_n 0, 1, 0, 0, 0, .null, []),
  (4, .getfield 15, 3, 8, 1, 0, .null, []),
  (7, .if_icmp .ge 22, 3, 29, 0, 0, .null, []),
  (10, .aload_n 0, 1, 0, 0, 0, .null, []),
  (11, .getfield 18, 3, 8, 2, 2, .null, []),
  (14, .iload_n 2, 1, 0, 0, 0, .null, []),
  (15, .iaload, 1, 0, 0, 0, .null, []),
  (16, .iload_n 1, 1, 0, 0, 0, .null, []),
  (17, .ishr, 1, 0, 0, 0, .null, []),
  (18, .ifCond .eq 5, 3, 23, 0, 0, .null, []),
  (21, .iconst 1, 1, 0, 0, 0, .int 1, []),
  (22, .ireturn, 1, 0, 0, 0, .null, []),
  (23, .iinc 2 1, 3, 0, 0, 0, .int 1, []),
  (26, .goto (-24), 3, 2, 0, 0, .null, []),
  (29, .iconst 0, 1, 0, 0, 0, .int 0, []),
  (30, .ireturn, 1, 0, 0, 0, .null, [])]
def am_c_St_placeOf : List am_E := [(0, .iconst 0, 1, 0, 0, 0, .int 0, []),
  (1, .istore_n 2, 1, 0, 0, 0, .null, []),
  (2, .iload_n 2, 1, 0, 0, 0, .null, [(0, 0)]),
  (3, .aload_n 0, 1, 0, 0, 0, .null, []),
  (4, .getfield 15, 3, 8, 1, 0, .null, []),
  (7, .if_icmp .ge 21, 3, 28, 0, 0, .null, []),
  (10, .aload_n 0, 1, 0, 0, 0, .null, []),
  (11, .getfield 18, 3, 8, 2, 2, .null, []),
  (14, .iload_n 2, 1, 0, 0, 0, .null, []),
  (15, .iaload, 1, 0, 0, 0, .null, []),
  (16, .iload_n 1, 1, 0, 0, 0, .null, []),
  (17, .if_icmp .ne 5, 3, 22, 0, 0, .null, []),
  (20, .iload_n 2, 1, 0, 0, 0, .null, []),
  (21, .ireturn, 1, 0, 0, 0, .null, []),
  (22, .iinc 2 1, 3, 0, 0, 0, .int 1, []),
  (25, .goto (-23), 3, 2, 0, 0, .null, []),
  (28, .iconst (-1), 1, 0, 0, 0, .int (-1), []),
  (29, .ireturn, 1, 0, 0, 0, .null, [])]
def am_c_St_append : List am_E := [(0, .aload_n 0, 1, 0, 0, 0, .null, []),
  (1, .getfield 15, 3, 8, 1, 0, .null, []),
  (4, .bipush 12, 2, 0, 0, 0, .int 12, []),
  (6, .if_icmp .ge 23, 3, 29, 0, 0, .null, []),
  (9, .aload_n 0, 1, 0, 0, 0, .null, []),
  (10, .getfield 18, 3, 8, 2, 2, .null, []),
  (13, .aload_n 0, 1, 0, 0, 0, .null, []),
  (14, .getfield 15, 3, 8, 1, 0, .null, []),
  (17, .iload_n 1, 1, 0, 0, 0, .null, []),
  (18, .iastore, 1, 0, 0, 0, .null, []),
  (19, .aload_n 0, 1, 0, 0, 0, .null, []),
  (20, .dup, 1, 0, 0, 0, .null, []),
  (21, .getfield 15, 3, 8, 1, 0, .null, []),
  (24, .iconst 1, 1, 0, 0, 0, .int 1, []),
  (25, .iadd, 1, 0, 0, 0, .null, []),
  (26, .putfield 15, 3, 8, 1, 0, .null, []),
  (29, .return_, 1, 0, 0, 0, .null, [])]
def am_c_St_removeAt : List am_E := [(0, .iload_n 1, 1, 0, 0, 0, .null, []),
  (1, .iconst 1, 1, 0, 0, 0, .int 1, []),
  (2, .iadd, 1, 0, 0, 0, .null, []),
  (3, .istore_n 2, 1, 0, 0, 0, .null, []),
  (4, .iload_n 2, 1, 0, 0, 0, .null, [(0, 0)]),
  (5, .aload_n 0, 1, 0, 0, 0, .null, []),
  (6, .getfield 15, 3, 8, 1, 0, .null, []),
  (9, .if_icmp .ge 23, 3, 32, 0, 0, .null, []),
  (12, .aload_n 0, 1, 0, 0, 0, .null, []),
  (13, .getfield 18, 3, 8, 2, 2, .null, []),
  (16, .iload_n 2, 1, 0, 0, 0, .null, []),
  (17, .iconst 1, 1, 0, 0, 0, .int 1, []),
  (18, .isub, 1, 0, 0, 0, .null, []),
  (19, .aload_n 0, 1, 0, 0, 0, .null, []),
  (20, .getfield 18, 3, 8, 2, 2, .null, []),
  (23, .iload_n 2, 1, 0, 0, 0, .null, []),
  (24, .iaload, 1, 0, 0, 0, .null, []),
  (25, .iastore, 1, 0, 0, 0, .null, []),
  (26, .iinc 2 1, 3, 0, 0, 0, .int 1, []),
  (29, .goto (-25), 3, 4, 0, 0, .null, []),
  (32, .aload_n 0, 1, 0, 0, 0, .null, []),
  (33, .dup, 1, 0, 0, 0, .null, []),
  (34, .getfield 15, 3, 8, 1, 0, .null, []),
  (37, .iconst 1, 1, 0, 0, 0, .int 1, []),
  (38, .isub, 1, 0, 0, 0, .null, []),
  (39, .putfield 15, 3, 8, 1, 0, .null, []),
  (42, .return_, 1, 0, 0, 0, .null, [])]
def am_c_St_drawTurn : List am_E := [(0, .aload_n 0, 1, 0, 0, 0, .null, []),
  (1, .aload_n 0, 1, 0, 0, 0, .null, []),
  (2, .getfield 22, 3, 8, 3, 0, .null, []),
  (5, .ldc 55, 2, 0, 0, 0, .int 1103515245, []),
  (7, .imul, 1, 0, 0, 0, .null, []),
  (8, .sipush 12345, 3, 0, 0, 0, .int 12345, []),
  (11, .iadd, 1, 0, 0, 0, .null, []),
  (12, .ldc 56, 2, 0, 0, 0, .int 2147483647, []),
  (14, .iand, 1, 0, 0, 0, .null, []),
  (15, .putfield 22, 3, 8, 3, 0, .null, []),
  (18, .aload_n 0, 1, 0, 0, 0, .null, []),
  (19, .invokevirtual 47, 3, 81, 0, 10, .null, []),
  (22, .istore_n 1, 1, 0, 0, 0, .null, []),
  (23, .iload_n 1, 1, 0, 0, 0, .null, []),
  (24, .iconst 1, 1, 0, 0, 0, .int 1, []),
  (25, .if_icmp .ge 4, 3, 29, 0, 0, .null, []),
  (28, .return_, 1, 0, 0, 0, .null, []),
  (29, .aload_n 0, 1, 0, 0, 0, .null, []),
  (30, .getfield 22, 3, 8, 3, 0, .null, []),
  (33, .ldc 57, 2, 0, 0, 0, .int 65536, []),
  (35, .idiv, 1, 0, 0, 0, .null, []),
  (36, .iload_n 1, 1, 0, 0, 0, .null, []),
  (37, .irem, 1, 0, 0, 0, .null, []),
  (38, .iconst 1, 1, 0, 0, 0, .int 1, []),
  (39, .iadd, 1, 0, 0, 0, .null, []),
  (40, .istore_n 2, 1, 0, 0, 0, .null, []),
  (41, .aload_n 0, 1, 0, 0, 0, .null, []),
  (42, .iload_n 2, 1, 0, 0, 0, .null, []),
  (43, .invokevirtual 58, 3, 85, 1, 10, .null, []),
  (46, .istore_n 3, 1, 0, 0, 0, .null, []),
  (47, .iload_n 3, 1, 0, 0, 0, .null, []),
  (48, .ifCond .lt 11, 3, 59, 0, 0, .null, []),
  (51, .aload_n 0, 1, 0, 0, 0, .null, []),
  (52, .iload_n 3, 1, 0, 0, 0, .null, []),
  (53, .invokevirtual 62, 3, 87, 1, 10, .null, []),
  (56, .goto 8, 3, 64, 0, 0, .null, []),
  (59, .aload_n 0, 1, 0, 0, 0, .null, []),
  (60, .iload_n 2, 1, 0, 0, 0, .null, []),
  (61, .invokevirtual 66, 3, 86, 1, 10, .null, []),
  (64, .return_, 1, 0, 0, 0, .null, [])]
def am_c_St_holdsGroup : List am_E := [(0, .iconst 0, 1, 0, 0, 0, .int 0, []),
  (1, .istore_n 2, 1, 0, 0, 0, .null, []),
  (2, .iload_n 2, 1, 0, 0, 0, .null, [(0, 0)]),
  (3, .aload_n 0, 1, 0, 0, 0, .null, []),
  (4, .getfield 15, 3, 8, 1, 0, .null, []),
  (7, .if_icmp .ge 24, 3, 31, 0, 0, .null, []),
  (10, .aload_n 0, 1, 0, 0, 0, .null, []),
  (11, .getfield 18, 3, 8, 2, 2, .null, []),
  (14, .iload_n 2, 1, 0, 0, 0, .null, []),
  (15, .iaload, 1, 0, 0, 0, .null, []),
  (16, .iload_n 1, 1, 0, 0, 0, .null, []),
  (17, .iconst (-1), 1, 0, 0, 0, .int (-1), []),
  (18, .ixor, 1, 0, 0, 0, .null, []),
  (19, .iand, 1, 0, 0, 0, .null, []),
  (20, .ifCond .ne 5, 3, 25, 0, 0, .null, []),
  (23, .iconst 1, 1, 0, 0, 0, .int 1, []),
  (24, .ireturn, 1, 0, 0, 0, .null, []),
  (25, .iinc 2 1, 3, 0, 0, 0, .int 1, []),
  (28, .goto (-26), 3, 2, 0, 0, .null, []),
  (31, .iconst 0, 1, 0, 0, 0, .int 0, []),
  (32, .ireturn, 1, 0, 0, 0, .null, [])]
def am_c_St_isSuperfluous : List am_E := [(0, .iconst 0, 1, 0, 0, 0, .int 0, []),
  (1, .istore_n 2, 1, 0, 0, 0, .null, []),
  (2, .iload_n 2, 1, 0, 0, 0, .null, [(0, 0)]),
  (3, .aload_n 0, 1, 0, 0, 0, .null, []),
  (4, .getfield 15, 3, 8, 1, 0, .null, []),
  (7, .if_icmp .ge 34, 3, 41, 0, 0, .null, []),
  (10, .iload_n 2, 1, 0, 0, 0, .null, []),
  (11, .iload_n 1, 1, 0, 0, 0, .null, []),
  (12, .if_icmp .eq 23, 3, 35, 0, 0, .null, []),
  (15, .aload_n 0, 1, 0, 0, 0, .null, []),
  (16, .getfield 18, 3, 8, 2, 2, .null, []),
  (19, .iload_n 2, 1, 0, 0, 0, .null, []),
  (20, .iaload, 1, 0, 0, 0, .null, []),
  (21, .aload_n 0, 1, 0, 0, 0, .null, []),
  (22, .getfield 18, 3, 8, 2, 2, .null, []),
  (25, .iload_n 1, 1, 0, 0, 0, .null, []),
  (26, .iaload, 1, 0, 0, 0, .null, []),
  (27, .iconst (-1), 1, 0, 0, 0, .int (-1), []),
  (28, .ixor, 1, 0, 0, 0, .null, []),
  (29, .iand, 1, 0, 0, 0, .null, []),
  (30, .ifCond .ne 5, 3, 35, 0, 0, .null, []),
  (33, .iconst 1, 1, 0, 0, 0, .int 1, []),
  (34, .ireturn, 1, 0, 0, 0, .null, []),
  (35, .iinc 2 1, 3, 0, 0, 0, .int 1, []),
  (38, .goto (-36), 3, 2, 0, 0, .null, []),
  (41, .iconst 0, 1, 0, 0, 0, .int 0, []),
  (42, .ireturn, 1, 0, 0, 0, .null, [])]
def am_c_St_leastCommonOf : List am_E := [(0, .bipush (-4), 2, 0, 0, 0, .int (-4), []),
  (2, .istore_n 2, 1, 0, 0, 0, .null, []),
  (3, .iconst 0, 1, 0, 0, 0, .int 0, []),
  (4, .istore_n 3, 1, 0, 0, 0, .null, []),
  (5, .iload_n 3, 1, 0, 0, 0, .null, [(0, 0)]),
  (6, .aload_n 0, 1, 0, 0, 0, .null, []),
  (7, .getfield 15, 3, 8, 1, 0, .null, []),
  (10, .if_icmp .ge 47, 3, 57, 0, 0, .null, []),
  (13, .aload_n 0, 1, 0, 0, 0, .null, []),
  (14, .getfield 18, 3, 8, 2, 2, .null, []),
  (17, .iload_n 3, 1, 0, 0, 0, .null, []),
  (18, .iaload, 1, 0, 0, 0, .null, []),
  (19, .aload_n 0, 1, 0, 0, 0, .null, []),
  (20, .getfield 18, 3, 8, 2, 2, .null, []),
  (23, .iload_n 1, 1, 0, 0, 0, .null, []),
  (24, .iaload, 1, 0, 0, 0, .null, []),
  (25, .iand, 1, 0, 0, 0, .null, []),
  (26, .invokestatic 69, 3, 0, 1, 0, .null, []),
  (29, .istore 4, 2, 0, 0, 0, .null, []),
  (31, .iload_n 3, 1, 0, 0, 0, .null, []),
  (32, .iload_n 1, 1, 0, 0, 0, .null, []),
  (33, .if_icmp .eq 18, 3, 51, 0, 0, .null, []),
  (36, .iload_n 2, 1, 0, 0, 0, .null, []),
  (37, .bipush (-4), 2, 0, 0, 0, .int (-4), []),
  (39, .if_icmp .eq 9, 3, 48, 0, 0, .null, []),
  (42, .iload 4, 2, 0, 0, 0, .null, []),
  (44, .iload_n 2, 1, 0, 0, 0, .null, []),
  (45, .if_icmp .ge 6, 3, 51, 0, 0, .null, []),
  (48, .iload 4, 2, 0, 0, 0, .null, []),
  (50, .istore_n 2, 1, 0, 0, 0, .null, []),
  (51, .iinc 3 1, 3, 0, 0, 0, .int 1, []),
  (54, .goto (-49), 3, 5, 0, 0, .null, []),
  (57, .iload_n 2, 1, 0, 0, 0, .null, []),
  (58, .ireturn, 1, 0, 0, 0, .null, [])]
def am_c_St_groupsWith : List am_E := [(0, .iconst 0, 1, 0, 0, 0, .int 0, []),
  (1, .istore_n 2, 1, 0, 0, 0, .null, []),
  (2, .iconst 0, 1, 0, 0, 0, .int 0, []),
  (3, .istore_n 3, 1, 0, 0, 0, .null, []),
  (4, .iload_n 3, 1, 0, 0, 0, .null, [(0, 0)]),
  (5, .aload_n 0, 1, 0, 0, 0, .null, []),
  (6, .getfield 15, 3, 8, 1, 0, .null, []),
  (9, .if_icmp .ge 26, 3, 35, 0, 0, .null, []),
  (12, .aload_n 0, 1, 0, 0, 0, .null, []),
  (13, .getfield 18, 3, 8, 2, 2, .null, []),
  (16, .iload_n 3, 1, 0, 0, 0, .null, []),
  (17, .iaload, 1, 0, 0, 0, .null, []),
  (18, .iload_n 1, 1, 0, 0, 0, .null, []),
  (19, .iand, 1, 0, 0, 0, .null, []),
  (20, .ifCond .eq 9, 3, 29, 0, 0, .null, []),
  (23, .iload_n 2, 1, 0, 0, 0, .null, []),
  (24, .iconst 1, 1, 0, 0, 0, .int 1, []),
  (25, .iload_n 3, 1, 0, 0, 0, .null, []),
  (26, .ishl, 1, 0, 0, 0, .null, []),
  (27, .ior, 1, 0, 0, 0, .null, []),
  (28, .istore_n 2, 1, 0, 0, 0, .null, []),
  (29, .iinc 3 1, 3, 0, 0, 0, .int 1, []),
  (32, .goto (-28), 3, 4, 0, 0, .null, []),
  (35, .iload_n 2, 1, 0, 0, 0, .null, []),
  (36, .ireturn, 1, 0, 0, 0, .null, [])]
def am_c_St_common : List am_E := [(0, .bipush 7, 2, 0, 0, 0, .int 7, []),
  (2, .istore_n 1, 1, 0, 0, 0, .null, []),
  (3, .iconst 0, 1, 0, 0, 0, .int 0, []),
  (4, .istore_n 2, 1, 0, 0, 0, .null, []),
  (5, .iload_n 2, 1, 0, 0, 0, .null, [(0, 0)]),
  (6, .aload_n 0, 1, 0, 0, 0, .null, []),
  (7, .getfield 15, 3, 8, 1, 0, .null, []),
  (10, .if_icmp .ge 43, 3, 53, 0, 0, .null, []),
  (13, .iconst 0, 1, 0, 0, 0, .int 0, []),
  (14, .istore_n 3, 1, 0, 0, 0, .null, []),
  (15, .iload_n 3, 1, 0, 0, 0, .null, [(0, 0)]),
  (16, .iload_n 2, 1, 0, 0, 0, .null, []),
  (17, .if_icmp .gt 30, 3, 47, 0, 0, .null, []),
  (20, .iload_n 1, 1, 0, 0, 0, .null, []),
  (21, .aload_n 0, 1, 0, 0, 0, .null, []),
  (22, .getfield 18, 3, 8, 2, 2, .null, []),
  (25, .iload_n 2, 1, 0, 0, 0, .null, []),
  (26, .iaload, 1, 0, 0, 0, .null, []),
  (27, .aload_n 0, 1, 0, 0, 0, .null, []),
  (28, .getfield 18, 3, 8, 2, 2, .null, []),
  (31, .iload_n 3, 1, 0, 0, 0, .null, []),
  (32, .iaload, 1, 0, 0, 0, .null, []),
  (33, .iand, 1, 0, 0, 0, .null, []),
  (34, .invokestatic 69, 3, 0, 1, 0, .null, []),
  (37, .invokestatic 74, 3, 0, 2, 4, .null, []),
  (40, .istore_n 1, 1, 0, 0, 0, .null, []),
  (41, .iinc 3 1, 3, 0, 0, 0, .int 1, []),
  (44, .goto (-29), 3, 15, 0, 0, .null, []),
  (47, .iinc 2 1, 3, 0, 0, 0, .int 1, []),
  (50, .goto (-45), 3, 5, 0, 0, .null, []),
  (53, .iload_n 1, 1, 0, 0, 0, .null, []),
  (54, .ireturn, 1, 0, 0, 0, .null, [])]
def am_c_Ta_init : List am_E := [(0, .aload_n 0, 1, 0, 0, 0, .null, []),
  (1, .invokespecial 3, 3, 0, 0, 1, .null, []),
  (4, .aload_n 0, 1, 0, 0, 0, .null, []),
  (5, .iconst 0, 1, 0, 0, 0, .int 0, []),
  (6, .putfield 9, 3, 9, 0, 0, .null, []),
  (9, .aload_n 0, 1, 0, 0, 0, .null, []),
  (10, .bipush 90, 2, 0, 0, 0, .int 90, []),
  (12, .newarray .char, 2, 13, 0, 0, .null, []),
  (14, .putfield 15, 3, 9, 1, 2, .null, []),
  (17, .return_, 1, 0, 0, 0, .null, [])]
def am_c_Ta_append : List am_E := [(0, .aload_n 0, 1, 0, 0, 0, .null, []),
  (1, .getfield 9, 3, 9, 0, 0, .null, []),
  (4, .bipush 90, 2, 0, 0, 0, .int 90, []),
  (6, .if_icmp .ge 24, 3, 30, 0, 0, .null, []),
  (9, .aload_n 0, 1, 0, 0, 0, .null, []),
  (10, .getfield 15, 3, 9, 1, 2, .null, []),
  (13, .aload_n 0, 1, 0, 0, 0, .null, []),
  (14, .getfield 9, 3, 9, 0, 0, .null, []),
  (17, .iload_n 1, 1, 0, 0, 0, .null, []),
  (18, .i2c, 1, 0, 0, 0, .null, []),
  (19, .castore, 1, 0, 0, 0, .null, []),
  (20, .aload_n 0, 1, 0, 0, 0, .null, []),
  (21, .dup, 1, 0, 0, 0, .null, []),
  (22, .getfield 9, 3, 9, 0, 0, .null, []),
  (25, .iconst 1, 1, 0, 0, 0, .int 1, []),
  (26, .iadd, 1, 0, 0, 0, .null, []),
  (27, .putfield 9, 3, 9, 0, 0, .null, []),
  (30, .return_, 1, 0, 0, 0, .null, [])]
def am_c_Ta_at : List am_E := [(0, .iload_n 1, 1, 0, 0, 0, .null, []),
  (1, .ifCond .lt 20, 3, 21, 0, 0, .null, []),
  (4, .iload_n 1, 1, 0, 0, 0, .null, []),
  (5, .aload_n 0, 1, 0, 0, 0, .null, []),
  (6, .getfield 9, 3, 9, 0, 0, .null, []),
  (9, .if_icmp .ge 12, 3, 21, 0, 0, .null, []),
  (12, .aload_n 0, 1, 0, 0, 0, .null, []),
  (13, .getfield 15, 3, 9, 1, 2, .null, []),
  (16, .iload_n 1, 1, 0, 0, 0, .null, []),
  (17, .caload, 1, 0, 0, 0, .null, []),
  (18, .goto 4, 3, 22, 0, 0, .null, []),
  (21, .iconst 0, 1, 0, 0, 0, .int 0, []),
  (22, .ireturn, 1, 0, 0, 0, .null, [])]
def am_c_MG_init_1 : List am_E := [(108, .aload_n 0, 1, 0, 0, 0, .null, []),
  (109, .iconst 4, 1, 0, 0, 0, .int 4, []),
  (110, .anewarray 68, 3, 17, 0, 0, .null, []),
  (113, .putfield 70, 3, 10, 10, 2, .null, []),
  (116, .iconst 0, 1, 0, 0, 0, .int 0, []),
  (117, .istore_n 1, 1, 0, 0, 0, .null, []),
  (118, .iload_n 1, 1, 0, 0, 0, .null, [(0, 0)]),
  (119, .iconst 4, 1, 0, 0, 0, .int 4, []),
  (120, .if_icmp .ge 22, 3, 142, 0, 0, .null, []),
  (123, .aload_n 0, 1, 0, 0, 0, .null, []),
  (124, .getfield 70, 3, 10, 10, 2, .null, []),
  (127, .iload_n 1, 1, 0, 0, 0, .null, []),
  (128, .new 68, 3, 7, 0, 0, .null, []),
  (131, .dup, 1, 0, 0, 0, .null, []),
  (132, .invokespecial 74, 3, 71, 0, 2, .null, []),
  (135, .aastore, 1, 17, 7, 0, .null, []),
  (136, .iinc 1 1, 3, 0, 0, 0, .int 1, []),
  (139, .goto (-21), 3, 118, 0, 0, .null, []),
  (142, .return_, 1, 0, 0, 0, .null, [])]
def am_c_MG_init : List am_E := (0, .aload_n 0, 1, 0, 0, 0, .null, []) ::
  (1, .invokespecial 1, 3, 0, 0, 1, .null, []) ::
  (4, .aload_n 0, 1, 0, 0, 0, .null, []) ::
  (5, .new 7, 3, 8, 0, 0, .null, []) ::
  (8, .dup, 1, 0, 0, 0, .null, []) ::
  (9, .invokespecial 9, 3, 78, 0, 2, .null, []) ::
  (12, .putfield 10, 3, 10, 0, 2, .null, []) ::
  (15, .aload_n 0, 1, 0, 0, 0, .null, []) ::
  (16, .new 16, 3, 0, 0, 0, .null, []) ::
  (19, .dup, 1, 0, 0, 0, .null, []) ::
  (20, .invokespecial 18, 3, 1, 0, 0, .null, []) ::
  (23, .putfield 19, 3, 10, 1, 2, .null, []) ::
  (26, .aload_n 0, 1, 0, 0, 0, .null, []) ::
  (27, .new 7, 3, 8, 0, 0, .null, []) ::
  (30, .dup, 1, 0, 0, 0, .null, []) ::
  (31, .invokespecial 9, 3, 78, 0, 2, .null, []) ::
  (34, .putfield 23, 3, 10, 2, 2, .null, []) ::
  (37, .aload_n 0, 1, 0, 0, 0, .null, []) ::
  (38, .new 16, 3, 0, 0, 0, .null, []) ::
  (41, .dup, 1, 0, 0, 0, .null, []) ::
  (42, .invokespecial 18, 3, 1, 0, 0, .null, []) ::
  (45, .putfield 26, 3, 10, 3, 2, .null, []) ::
  (48, .aload_n 0, 1, 0, 0, 0, .null, []) ::
  (49, .iconst 0, 1, 0, 0, 0, .int 0, []) ::
  (50, .putfield 29, 3, 10, 4, 1, .null, []) ::
  (53, .aload_n 0, 1, 0, 0, 0, .null, []) ::
  (54, .new 33, 3, 5, 0, 0, .null, []) ::
  (57, .dup, 1, 0, 0, 0, .null, []) ::
  (58, .invokespecial 35, 3, 41, 0, 2, .null, []) ::
  (61, .putfield 36, 3, 10, 5, 2, .null, []) ::
  (64, .aload_n 0, 1, 0, 0, 0, .null, []) ::
  (65, .new 40, 3, 1, 0, 0, .null, []) ::
  (68, .dup, 1, 0, 0, 0, .null, []) ::
  (69, .invokespecial 42, 3, 6, 0, 2, .null, []) ::
  (72, .putfield 43, 3, 10, 6, 2, .null, []) ::
  (75, .aload_n 0, 1, 0, 0, 0, .null, []) ::
  (76, .new 47, 3, 4, 0, 0, .null, []) ::
  (79, .dup, 1, 0, 0, 0, .null, []) ::
  (80, .invokespecial 49, 3, 31, 0, 0, .null, []) ::
  (83, .putfield 50, 3, 10, 7, 2, .null, []) ::
  (86, .aload_n 0, 1, 0, 0, 0, .null, []) ::
  (87, .new 54, 3, 2, 0, 0, .null, []) ::
  (90, .dup, 1, 0, 0, 0, .null, []) ::
  (91, .invokespecial 56, 3, 14, 0, 2, .null, []) ::
  (94, .putfield 57, 3, 10, 8, 2, .null, []) ::
  (97, .aload_n 0, 1, 0, 0, 0, .null, []) ::
  (98, .new 61, 3, 6, 0, 0, .null, []) ::
  (101, .dup, 1, 0, 0, 0, .null, []) ::
  (102, .invokespecial 63, 3, 62, 0, 2, .null, []) ::
  (105, .putfield 64, 3, 10, 9, 2, .null, []) :: am_c_MG_init_1
def am_c_MG_group : List am_E := [(0, .iload_n 1, 1, 0, 0, 0, .null, []),
  (1, .ifCond .lt 23, 3, 24, 0, 0, .null, []),
  (4, .iload_n 1, 1, 0, 0, 0, .null, []),
  (5, .aload_n 0, 1, 0, 0, 0, .null, []),
  (6, .getfield 10, 3, 10, 0, 2, .null, []),
  (9, .getfield 75, 3, 8, 1, 0, .null, []),
  (12, .if_icmp .ge 12, 3, 24, 0, 0, .null, []),
  (15, .iload_n 2, 1, 0, 0, 0, .null, []),
  (16, .ifCond .lt 8, 3, 24, 0, 0, .null, []),
  (19, .iload_n 2, 1, 0, 0, 0, .null, []),
  (20, .iconst 2, 1, 0, 0, 0, .int 2, []),
  (21, .if_icmp .le 5, 3, 26, 0, 0, .null, []),
  (24, .iconst (-1), 1, 0, 0, 0, .int (-1), []),
  (25, .ireturn, 1, 0, 0, 0, .null, []),
  (26, .iload_n 2, 1, 0, 0, 0, .null, []),
  (27, .ifCond .ne 13, 3, 40, 0, 0, .null, []),
  (30, .aload_n 0, 1, 0, 0, 0, .null, []),
  (31, .getfield 10, 3, 10, 0, 2, .null, []),
  (34, .getfield 79, 3, 8, 2, 2, .null, []),
  (37, .iload_n 1, 1, 0, 0, 0, .null, []),
  (38, .iaload, 1, 0, 0, 0, .null, []),
  (39, .ireturn, 1, 0, 0, 0, .null, []),
  (40, .iload_n 2, 1, 0, 0, 0, .null, []),
  (41, .iconst 1, 1, 0, 0, 0, .int 1, []),
  (42, .if_icmp .ne 17, 3, 59, 0, 0, .null, []),
  (45, .aload_n 0, 1, 0, 0, 0, .null, []),
  (46, .getfield 10, 3, 10, 0, 2, .null, []),
  (49, .iload_n 1, 1, 0, 0, 0, .null, []),
  (50, .invokevirtual 83, 3, 90, 1, 10, .null, []),
  (53, .invokestatic 87, 3, 126, 1, 0, .null, []),
  (56, .goto 11, 3, 67, 0, 0, .null, []),
  (59, .aload_n 0, 1, 0, 0, 0, .null, []),
  (60, .getfield 10, 3, 10, 0, 2, .null, []),
  (63, .iload_n 1, 1, 0, 0, 0, .null, []),
  (64, .invokevirtual 91, 3, 91, 1, 10, .null, []),
  (67, .ireturn, 1, 0, 0, 0, .null, [])]
def am_c_MG_element : List am_E := [(0, .iload_n 1, 1, 0, 0, 0, .null, []),
  (1, .ifCond .lt 23, 3, 24, 0, 0, .null, []),
  (4, .iload_n 1, 1, 0, 0, 0, .null, []),
  (5, .aload_n 0, 1, 0, 0, 0, .null, []),
  (6, .getfield 10, 3, 10, 0, 2, .null, []),
  (9, .getfield 95, 3, 8, 0, 0, .null, []),
  (12, .if_icmp .ge 12, 3, 24, 0, 0, .null, []),
  (15, .iload_n 2, 1, 0, 0, 0, .null, []),
  (16, .ifCond .lt 8, 3, 24, 0, 0, .null, []),
  (19, .iload_n 2, 1, 0, 0, 0, .null, []),
  (20, .iconst 2, 1, 0, 0, 0, .int 2, []),
  (21, .if_icmp .le 5, 3, 26, 0, 0, .null, []),
  (24, .iconst (-1), 1, 0, 0, 0, .int (-1), []),
  (25, .ireturn, 1, 0, 0, 0, .null, []),
  (26, .iload_n 2, 1, 0, 0, 0, .null, []),
  (27, .iconst 2, 1, 0, 0, 0, .int 2, []),
  (28, .if_icmp .ne 25, 3, 53, 0, 0, .null, []),
  (31, .aload_n 0, 1, 0, 0, 0, .null, []),
  (32, .getfield 43, 3, 10, 6, 2, .null, []),
  (35, .aload_n 0, 1, 0, 0, 0, .null, []),
  (36, .getfield 10, 3, 10, 0, 2, .null, []),
  (39, .invokevirtual 98, 3, 7, 1, 3, .null, []),
  (42, .aload_n 0, 1, 0, 0, 0, .null, []),
  (43, .getfield 43, 3, 10, 6, 2, .null, []),
  (46, .iconst 1, 1, 0, 0, 0, .int 1, []),
  (47, .iload_n 1, 1, 0, 0, 0, .null, []),
  (48, .ishl, 1, 0, 0, 0, .null, []),
  (49, .invokevirtual 102, 3, 9, 1, 3, .null, []),
  (52, .ireturn, 1, 0, 0, 0, .null, []),
  (53, .aload_n 0, 1, 0, 0, 0, .null, []),
  (54, .getfield 10, 3, 10, 0, 2, .null, []),
  (57, .iconst 1, 1, 0, 0, 0, .int 1, []),
  (58, .iload_n 1, 1, 0, 0, 0, .null, []),
  (59, .ishl, 1, 0, 0, 0, .null, []),
  (60, .invokevirtual 105, 3, 92, 1, 10, .null, []),
  (63, .istore_n 3, 1, 0, 0, 0, .null, []),
  (64, .iload_n 2, 1, 0, 0, 0, .null, []),
  (65, .ifCond .ne 10, 3, 75, 0, 0, .null, []),
  (68, .iload_n 3, 1, 0, 0, 0, .null, []),
  (69, .invokestatic 108, 3, 0, 1, 0, .null, []),
  (72, .goto 4, 3, 76, 0, 0, .null, []),
  (75, .iload_n 3, 1, 0, 0, 0, .null, []),
  (76, .ireturn, 1, 0, 0, 0, .null, [])]
def am_c_MG_count : List am_E := [(0, .iload_n 1, 1, 0, 0, 0, .null, []),
  (1, .tableswitch 136 0 8 #[51, 59, 96, 67, 96, 96, 96, 117, 128], 51, 137, 0, 0, .null, [(0, 52), (1, 60), (2, 97), (3, 68), (4, 97), (5, 97), (6, 97), (7, 118), (8, 129)]),
  (52, .aload_n 0, 1, 0, 0, 0, .null, []),
  (53, .getfield 10, 3, 10, 0, 2, .null, []),
  (56, .getfield 95, 3, 8, 0, 0, .null, []),
  (59, .ireturn, 1, 0, 0, 0, .null, []),
  (60, .aload_n 0, 1, 0, 0, 0, .null, []),
  (61, .getfield 10, 3, 10, 0, 2, .null, []),
  (64, .getfield 75, 3, 8, 1, 0, .null, []),
  (67, .ireturn, 1, 0, 0, 0, .null, []),
  (68, .aload_n 0, 1, 0, 0, 0, .null, []),
  (69, .getfield 10, 3, 10, 0, 2, .null, []),
  (72, .getfield 75, 3, 8, 1, 0, .null, []),
  (75, .ifCond .eq 13, 3, 88, 0, 0, .null, []),
  (78, .aload_n 0, 1, 0, 0, 0, .null, []),
  (79, .getfield 10, 3, 10, 0, 2, .null, []),
  (82, .invokevirtual 113, 3, 93, 0, 10, .null, []),
  (85, .ifCond .le 7, 3, 92, 0, 0, .null, []),
  (88, .iconst 1, 1, 0, 0, 0, .int 1, []),
  (89, .goto 4, 3, 93, 0, 0, .null, []),
  (92, .iconst 0, 1, 0, 0, 0, .int 0, []),
  (93, .invokestatic 87, 3, 126, 1, 0, .null, []),
  (96, .ireturn, 1, 0, 0, 0, .null, []),
  (97, .aload_n 0, 1, 0, 0, 0, .null, []),
  (98, .getfield 10, 3, 10, 0, 2, .null, []),
  (101, .getfield 75, 3, 8, 1, 0, .null, []),
  (104, .ifCond .ne 8, 3, 112, 0, 0, .null, []),
  (107, .bipush (-4), 2, 0, 0, 0, .int (-4), []),
  (109, .goto 8, 3, 117, 0, 0, .null, []),
  (112, .aload_n 0, 1, 0, 0, 0, .null, []),
  (113, .iload_n 1, 1, 0, 0, 0, .null, []),
  (114, .invokevirtual 117, 3, 127, 1, 12, .null, []),
  (117, .ireturn, 1, 0, 0, 0, .null, []),
  (118, .aload_n 0, 1, 0, 0, 0, .null, []),
  (119, .getfield 10, 3, 10, 0, 2, .null, []),
  (122, .getfield 120, 3, 8, 4, 2, .null, []),
  (125, .getfield 124, 3, 3, 0, 0, .null, []),
  (128, .ireturn, 1, 0, 0, 0, .null, []),
  (129, .aload_n 0, 1, 0, 0, 0, .null, []),
  (130, .getfield 19, 3, 10, 1, 2, .null, []),
  (133, .getfield 129, 3, 0, 0, 0, .null, []),
  (136, .ireturn, 1, 0, 0, 0, .null, []),
  (137, .iconst (-1), 1, 0, 0, 0, .int (-1), []),
  (138, .ireturn, 1, 0, 0, 0, .null, [])]
def am_c_MG_load : List am_E := [(0, .iload_n 1, 1, 0, 0, 0, .null, []),
  (1, .ifCond .lt 8, 3, 9, 0, 0, .null, []),
  (4, .iload_n 1, 1, 0, 0, 0, .null, []),
  (5, .iconst 1, 1, 0, 0, 0, .int 1, []),
  (6, .if_icmp .le 5, 3, 11, 0, 0, .null, []),
  (9, .iconst (-1), 1, 0, 0, 0, .int (-1), []),
  (10, .ireturn, 1, 0, 0, 0, .null, []),
  (11, .aload_n 0, 1, 0, 0, 0, .null, []),
  (12, .getfield 10, 3, 10, 0, 2, .null, []),
  (15, .getfield 75, 3, 8, 1, 0, .null, []),
  (18, .ifCond .ne 6, 3, 24, 0, 0, .null, []),
  (21, .bipush (-4), 2, 0, 0, 0, .int (-4), []),
  (23, .ireturn, 1, 0, 0, 0, .null, []),
  (24, .aload_n 0, 1, 0, 0, 0, .null, []),
  (25, .getfield 57, 3, 10, 8, 2, .null, []),
  (28, .aload_n 0, 1, 0, 0, 0, .null, []),
  (29, .getfield 10, 3, 10, 0, 2, .null, []),
  (32, .invokevirtual 132, 3, 16, 1, 4, .null, []),
  (35, .aload_n 0, 1, 0, 0, 0, .null, []),
  (36, .getfield 57, 3, 10, 8, 2, .null, []),
  (39, .getfield 135, 3, 2, 5, 0, .null, []),
  (42, .aload_n 0, 1, 0, 0, 0, .null, []),
  (43, .getfield 57, 3, 10, 8, 2, .null, []),
  (46, .invokevirtual 138, 3, 15, 0, 4, .null, []),
  (49, .iload_n 1, 1, 0, 0, 0, .null, []),
  (50, .invokestatic 141, 3, 129, 3, 0, .null, []),
  (53, .ireturn, 1, 0, 0, 0, .null, [])]
def am_c_MG_plan_1 : List am_E := [(97, .invokevirtual 155, 3, 30, 2, 5, .null, []),
  (100, .istore 5, 2, 0, 0, 0, .null, []),
  (102, .iload_n 2, 1, 0, 0, 0, .null, []),
  (103, .iconst 2, 1, 0, 0, 0, .int 2, []),
  (104, .if_icmp .ge 12, 3, 116, 0, 0, .null, []),
  (107, .iload 5, 2, 0, 0, 0, .null, []),
  (109, .iload 4, 2, 0, 0, 0, .null, []),
  (111, .iload_n 2, 1, 0, 0, 0, .null, []),
  (112, .invokestatic 141, 3, 129, 3, 0, .null, []),
  (115, .ireturn, 1, 0, 0, 0, .null, []),
  (116, .aload_n 0, 1, 0, 0, 0, .null, []),
  (117, .getfield 57, 3, 10, 8, 2, .null, []),
  (120, .aload_n 0, 1, 0, 0, 0, .null, []),
  (121, .getfield 10, 3, 10, 0, 2, .null, []),
  (124, .invokevirtual 132, 3, 16, 1, 4, .null, []),
  (127, .iload 5, 2, 0, 0, 0, .null, []),
  (129, .aload_n 0, 1, 0, 0, 0, .null, []),
  (130, .getfield 57, 3, 10, 8, 2, .null, []),
  (133, .invokevirtual 138, 3, 15, 0, 4, .null, []),
  (136, .imul, 1, 0, 0, 0, .null, []),
  (137, .iload 4, 2, 0, 0, 0, .null, []),
  (139, .aload_n 0, 1, 0, 0, 0, .null, []),
  (140, .getfield 57, 3, 10, 8, 2, .null, []),
  (143, .getfield 135, 3, 2, 5, 0, .null, []),
  (146, .imul, 1, 0, 0, 0, .null, []),
  (147, .if_icmp .ne 7, 3, 154, 0, 0, .null, []),
  (150, .iconst 1, 1, 0, 0, 0, .int 1, []),
  (151, .goto 4, 3, 155, 0, 0, .null, []),
  (154, .iconst 0, 1, 0, 0, 0, .int 0, []),
  (155, .invokestatic 87, 3, 126, 1, 0, .null, []),
  (158, .ireturn, 1, 0, 0, 0, .null, [])]
def am_c_MG_plan : List am_E := (0, .iload_n 1, 1, 0, 0, 0, .null, []) ::
  (1, .ifCond .lt 18, 3, 19, 0, 0, .null, []) ::
  (4, .iload_n 1, 1, 0, 0, 0, .null, []) ::
  (5, .bipush 99, 2, 0, 0, 0, .int 99, []) ::
  (7, .if_icmp .gt 12, 3, 19, 0, 0, .null, []) ::
  (10, .iload_n 2, 1, 0, 0, 0, .null, []) ::
  (11, .ifCond .lt 8, 3, 19, 0, 0, .null, []) ::
  (14, .iload_n 2, 1, 0, 0, 0, .null, []) ::
  (15, .iconst 3, 1, 0, 0, 0, .int 3, []) ::
  (16, .if_icmp .le 5, 3, 21, 0, 0, .null, []) ::
  (19, .iconst (-1), 1, 0, 0, 0, .int (-1), []) ::
  (20, .ireturn, 1, 0, 0, 0, .null, []) ::
  (21, .aload_n 0, 1, 0, 0, 0, .null, []) ::
  (22, .getfield 10, 3, 10, 0, 2, .null, []) ::
  (25, .getfield 120, 3, 8, 4, 2, .null, []) ::
  (28, .iload_n 1, 1, 0, 0, 0, .null, []) ::
  (29, .invokevirtual 145, 3, 26, 1, 5, .null, []) ::
  (32, .istore_n 3, 1, 0, 0, 0, .null, []) ::
  (33, .iload_n 3, 1, 0, 0, 0, .null, []) ::
  (34, .ifCond .lt 8, 3, 42, 0, 0, .null, []) ::
  (37, .iload_n 2, 1, 0, 0, 0, .null, []) ::
  (38, .iconst 3, 1, 0, 0, 0, .int 3, []) ::
  (39, .if_icmp .ne 14, 3, 53, 0, 0, .null, []) ::
  (42, .iload_n 3, 1, 0, 0, 0, .null, []) ::
  (43, .ifCond .ge 8, 3, 51, 0, 0, .null, []) ::
  (46, .bipush (-4), 2, 0, 0, 0, .int (-4), []) ::
  (48, .goto 4, 3, 52, 0, 0, .null, []) ::
  (51, .iload_n 3, 1, 0, 0, 0, .null, []) ::
  (52, .ireturn, 1, 0, 0, 0, .null, []) ::
  (53, .aload_n 0, 1, 0, 0, 0, .null, []) ::
  (54, .getfield 10, 3, 10, 0, 2, .null, []) ::
  (57, .getfield 120, 3, 8, 4, 2, .null, []) ::
  (60, .iload_n 3, 1, 0, 0, 0, .null, []) ::
  (61, .aload_n 0, 1, 0, 0, 0, .null, []) ::
  (62, .getfield 10, 3, 10, 0, 2, .null, []) ::
  (65, .aload_n 0, 1, 0, 0, 0, .null, []) ::
  (66, .getfield 10, 3, 10, 0, 2, .null, []) ::
  (69, .invokevirtual 148, 3, 81, 0, 10, .null, []) ::
  (72, .invokevirtual 151, 3, 29, 3, 5, .null, []) ::
  (75, .istore 4, 2, 0, 0, 0, .null, []) ::
  (77, .iload 4, 2, 0, 0, 0, .null, []) ::
  (79, .ifCond .ne 6, 3, 85, 0, 0, .null, []) ::
  (82, .bipush (-4), 2, 0, 0, 0, .int (-4), []) ::
  (84, .ireturn, 1, 0, 0, 0, .null, []) ::
  (85, .aload_n 0, 1, 0, 0, 0, .null, []) ::
  (86, .getfield 10, 3, 10, 0, 2, .null, []) ::
  (89, .getfield 120, 3, 8, 4, 2, .null, []) ::
  (92, .iload_n 3, 1, 0, 0, 0, .null, []) ::
  (93, .aload_n 0, 1, 0, 0, 0, .null, []) ::
  (94, .getfield 10, 3, 10, 0, 2, .null, []) :: am_c_MG_plan_1
def am_c_MG_standing : List am_E := [(0, .iload_n 1, 1, 0, 0, 0, .null, []),
  (1, .ifCond .lt 14, 3, 15, 0, 0, .null, []),
  (4, .iload_n 1, 1, 0, 0, 0, .null, []),
  (5, .aload_n 0, 1, 0, 0, 0, .null, []),
  (6, .getfield 10, 3, 10, 0, 2, .null, []),
  (9, .getfield 95, 3, 8, 0, 0, .null, []),
  (12, .if_icmp .le 5, 3, 17, 0, 0, .null, []),
  (15, .iconst (-1), 1, 0, 0, 0, .int (-1), []),
  (16, .ireturn, 1, 0, 0, 0, .null, []),
  (17, .aload_n 0, 1, 0, 0, 0, .null, []),
  (18, .getfield 43, 3, 10, 6, 2, .null, []),
  (21, .aload_n 0, 1, 0, 0, 0, .null, []),
  (22, .getfield 10, 3, 10, 0, 2, .null, []),
  (25, .invokevirtual 98, 3, 7, 1, 3, .null, []),
  (28, .aload_n 0, 1, 0, 0, 0, .null, []),
  (29, .getfield 43, 3, 10, 6, 2, .null, []),
  (32, .iload_n 1, 1, 0, 0, 0, .null, []),
  (33, .invokevirtual 159, 3, 8, 1, 3, .null, []),
  (36, .ireturn, 1, 0, 0, 0, .null, [])]
def am_c_MG_stands_1 : List am_E := [(93, .bipush 10, 2, 0, 0, 0, .int 10, []),
  (95, .aload_n 0, 1, 0, 0, 0, .null, []),
  (96, .getfield 10, 3, 10, 0, 2, .null, []),
  (99, .getfield 95, 3, 8, 0, 0, .null, []),
  (102, .invokestatic 162, 3, 128, 2, 0, .null, []),
  (105, .iload_n 2, 1, 0, 0, 0, .null, []),
  (106, .invokestatic 141, 3, 129, 3, 0, .null, []),
  (109, .ireturn, 1, 0, 0, 0, .null, [])]
def am_c_MG_stands : List am_E := (0, .iload_n 1, 1, 0, 0, 0, .null, []) ::
  (1, .ifCond .lt 18, 3, 19, 0, 0, .null, []) ::
  (4, .iload_n 1, 1, 0, 0, 0, .null, []) ::
  (5, .bipush 10, 2, 0, 0, 0, .int 10, []) ::
  (7, .if_icmp .gt 12, 3, 19, 0, 0, .null, []) ::
  (10, .iload_n 2, 1, 0, 0, 0, .null, []) ::
  (11, .ifCond .lt 8, 3, 19, 0, 0, .null, []) ::
  (14, .iload_n 2, 1, 0, 0, 0, .null, []) ::
  (15, .iconst 1, 1, 0, 0, 0, .int 1, []) ::
  (16, .if_icmp .le 5, 3, 21, 0, 0, .null, []) ::
  (19, .iconst (-1), 1, 0, 0, 0, .int (-1), []) ::
  (20, .ireturn, 1, 0, 0, 0, .null, []) ::
  (21, .aload_n 0, 1, 0, 0, 0, .null, []) ::
  (22, .getfield 43, 3, 10, 6, 2, .null, []) ::
  (25, .aload_n 0, 1, 0, 0, 0, .null, []) ::
  (26, .getfield 10, 3, 10, 0, 2, .null, []) ::
  (29, .invokevirtual 98, 3, 7, 1, 3, .null, []) ::
  (32, .iconst 0, 1, 0, 0, 0, .int 0, []) ::
  (33, .istore_n 3, 1, 0, 0, 0, .null, []) ::
  (34, .iconst 0, 1, 0, 0, 0, .int 0, []) ::
  (35, .istore 4, 2, 0, 0, 0, .null, []) ::
  (37, .iload 4, 2, 0, 0, 0, .null, [(0, 0)]) ::
  (39, .aload_n 0, 1, 0, 0, 0, .null, []) ::
  (40, .getfield 10, 3, 10, 0, 2, .null, []) ::
  (43, .getfield 95, 3, 8, 0, 0, .null, []) ::
  (46, .if_icmp .gt 46, 3, 92, 0, 0, .null, []) ::
  (49, .iload_n 3, 1, 0, 0, 0, .null, []) ::
  (50, .aload_n 0, 1, 0, 0, 0, .null, []) ::
  (51, .getfield 43, 3, 10, 6, 2, .null, []) ::
  (54, .iload 4, 2, 0, 0, 0, .null, []) ::
  (56, .invokevirtual 159, 3, 8, 1, 3, .null, []) ::
  (59, .bipush 10, 2, 0, 0, 0, .int 10, []) ::
  (61, .iload_n 1, 1, 0, 0, 0, .null, []) ::
  (62, .isub, 1, 0, 0, 0, .null, []) ::
  (63, .iload 4, 2, 0, 0, 0, .null, []) ::
  (65, .invokestatic 162, 3, 128, 2, 0, .null, []) ::
  (68, .imul, 1, 0, 0, 0, .null, []) ::
  (69, .iload_n 1, 1, 0, 0, 0, .null, []) ::
  (70, .aload_n 0, 1, 0, 0, 0, .null, []) ::
  (71, .getfield 10, 3, 10, 0, 2, .null, []) ::
  (74, .getfield 95, 3, 8, 0, 0, .null, []) ::
  (77, .iload 4, 2, 0, 0, 0, .null, []) ::
  (79, .isub, 1, 0, 0, 0, .null, []) ::
  (80, .invokestatic 162, 3, 128, 2, 0, .null, []) ::
  (83, .imul, 1, 0, 0, 0, .null, []) ::
  (84, .iadd, 1, 0, 0, 0, .null, []) ::
  (85, .istore_n 3, 1, 0, 0, 0, .null, []) ::
  (86, .iinc 4 1, 3, 0, 0, 0, .int 1, []) ::
  (89, .goto (-52), 3, 37, 0, 0, .null, []) ::
  (92, .iload_n 3, 1, 0, 0, 0, .null, []) :: am_c_MG_stands_1
def am_c_MG_free : List am_E := [(0, .iload_n 1, 1, 0, 0, 0, .null, []),
  (1, .ifCond .lt 8, 3, 9, 0, 0, .null, []),
  (4, .iload_n 1, 1, 0, 0, 0, .null, []),
  (5, .iconst 1, 1, 0, 0, 0, .int 1, []),
  (6, .if_icmp .le 5, 3, 11, 0, 0, .null, []),
  (9, .iconst (-1), 1, 0, 0, 0, .int (-1), []),
  (10, .ireturn, 1, 0, 0, 0, .null, []),
  (11, .aload_n 0, 1, 0, 0, 0, .null, []),
  (12, .getfield 43, 3, 10, 6, 2, .null, []),
  (15, .aload_n 0, 1, 0, 0, 0, .null, []),
  (16, .getfield 10, 3, 10, 0, 2, .null, []),
  (19, .invokevirtual 98, 3, 7, 1, 3, .null, []),
  (22, .iload_n 1, 1, 0, 0, 0, .null, []),
  (23, .ifCond .ne 13, 3, 36, 0, 0, .null, []),
  (26, .aload_n 0, 1, 0, 0, 0, .null, []),
  (27, .getfield 43, 3, 10, 6, 2, .null, []),
  (30, .invokevirtual 166, 3, 12, 0, 3, .null, []),
  (33, .goto 10, 3, 43, 0, 0, .null, []),
  (36, .aload_n 0, 1, 0, 0, 0, .null, []),
  (37, .getfield 43, 3, 10, 6, 2, .null, []),
  (40, .invokevirtual 169, 3, 13, 0, 3, .null, []),
  (43, .ireturn, 1, 0, 0, 0, .null, [])]
def am_c_MG_probe : List am_E := [(0, .aload_n 0, 1, 0, 0, 0, .null, []),
  (1, .getfield 10, 3, 10, 0, 2, .null, []),
  (4, .iload_n 1, 1, 0, 0, 0, .null, []),
  (5, .invokevirtual 172, 3, 82, 1, 10, .null, []),
  (8, .ifCond .eq 29, 3, 37, 0, 0, .null, []),
  (11, .aload_n 0, 1, 0, 0, 0, .null, []),
  (12, .getfield 10, 3, 10, 0, 2, .null, []),
  (15, .iload_n 2, 1, 0, 0, 0, .null, []),
  (16, .invokevirtual 172, 3, 82, 1, 10, .null, []),
  (19, .ifCond .eq 18, 3, 37, 0, 0, .null, []),
  (22, .iload_n 1, 1, 0, 0, 0, .null, []),
  (23, .iload_n 2, 1, 0, 0, 0, .null, []),
  (24, .iand, 1, 0, 0, 0, .null, []),
  (25, .ifCond .ne 12, 3, 37, 0, 0, .null, []),
  (28, .iload_n 3, 1, 0, 0, 0, .null, []),
  (29, .ifCond .lt 8, 3, 37, 0, 0, .null, []),
  (32, .iload_n 3, 1, 0, 0, 0, .null, []),
  (33, .iconst 1, 1, 0, 0, 0, .int 1, []),
  (34, .if_icmp .le 5, 3, 39, 0, 0, .null, []),
  (37, .iconst (-1), 1, 0, 0, 0, .int (-1), []),
  (38, .ireturn, 1, 0, 0, 0, .null, []),
  (39, .aload_n 0, 1, 0, 0, 0, .null, []),
  (40, .getfield 50, 3, 10, 7, 2, .null, []),
  (43, .aload_n 0, 1, 0, 0, 0, .null, []),
  (44, .getfield 10, 3, 10, 0, 2, .null, []),
  (47, .iload_n 1, 1, 0, 0, 0, .null, []),
  (48, .iload_n 2, 1, 0, 0, 0, .null, []),
  (49, .invokevirtual 175, 3, 32, 3, 6, .null, []),
  (52, .iload_n 3, 1, 0, 0, 0, .null, []),
  (53, .ifCond .ne 13, 3, 66, 0, 0, .null, []),
  (56, .aload_n 0, 1, 0, 0, 0, .null, []),
  (57, .getfield 50, 3, 10, 7, 2, .null, []),
  (60, .invokevirtual 179, 3, 39, 0, 6, .null, []),
  (63, .goto 10, 3, 73, 0, 0, .null, []),
  (66, .aload_n 0, 1, 0, 0, 0, .null, []),
  (67, .getfield 50, 3, 10, 7, 2, .null, []),
  (70, .invokevirtual 182, 3, 40, 0, 6, .null, []),
  (73, .ireturn, 1, 0, 0, 0, .null, [])]
def am_c_MG_add : List am_E := [(0, .aload_n 0, 1, 0, 0, 0, .null, []),
  (1, .getfield 10, 3, 10, 0, 2, .null, []),
  (4, .iload_n 1, 1, 0, 0, 0, .null, []),
  (5, .invokevirtual 185, 3, 83, 1, 10, .null, []),
  (8, .ifCond .ne 5, 3, 13, 0, 0, .null, []),
  (11, .iconst (-1), 1, 0, 0, 0, .int (-1), []),
  (12, .ireturn, 1, 0, 0, 0, .null, []),
  (13, .aload_n 0, 1, 0, 0, 0, .null, []),
  (14, .getfield 10, 3, 10, 0, 2, .null, []),
  (17, .iload_n 1, 1, 0, 0, 0, .null, []),
  (18, .invokevirtual 188, 3, 85, 1, 10, .null, []),
  (21, .ifCond .lt 6, 3, 27, 0, 0, .null, []),
  (24, .bipush (-2), 2, 0, 0, 0, .int (-2), []),
  (26, .ireturn, 1, 0, 0, 0, .null, []),
  (27, .aload_n 0, 1, 0, 0, 0, .null, []),
  (28, .getfield 10, 3, 10, 0, 2, .null, []),
  (31, .getfield 75, 3, 8, 1, 0, .null, []),
  (34, .bipush 12, 2, 0, 0, 0, .int 12, []),
  (36, .if_icmp .lt 6, 3, 42, 0, 0, .null, []),
  (39, .bipush (-3), 2, 0, 0, 0, .int (-3), []),
  (41, .ireturn, 1, 0, 0, 0, .null, []),
  (42, .aload_n 0, 1, 0, 0, 0, .null, []),
  (43, .getfield 19, 3, 10, 1, 2, .null, []),
  (46, .aload_n 0, 1, 0, 0, 0, .null, []),
  (47, .getfield 10, 3, 10, 0, 2, .null, []),
  (50, .invokevirtual 189, 3, 2, 1, 2, .null, []),
  (53, .aload_n 0, 1, 0, 0, 0, .null, []),
  (54, .getfield 10, 3, 10, 0, 2, .null, []),
  (57, .iload_n 1, 1, 0, 0, 0, .null, []),
  (58, .invokevirtual 192, 3, 86, 1, 10, .null, []),
  (61, .aload_n 0, 1, 0, 0, 0, .null, []),
  (62, .getfield 10, 3, 10, 0, 2, .null, []),
  (65, .getfield 75, 3, 8, 1, 0, .null, []),
  (68, .ireturn, 1, 0, 0, 0, .null, [])]
def am_c_MG_out : List am_E := [(0, .aload_n 0, 1, 0, 0, 0, .null, []),
  (1, .getfield 10, 3, 10, 0, 2, .null, []),
  (4, .iload_n 1, 1, 0, 0, 0, .null, []),
  (5, .invokevirtual 185, 3, 83, 1, 10, .null, []),
  (8, .ifCond .ne 5, 3, 13, 0, 0, .null, []),
  (11, .iconst (-1), 1, 0, 0, 0, .int (-1), []),
  (12, .ireturn, 1, 0, 0, 0, .null, []),
  (13, .aload_n 0, 1, 0, 0, 0, .null, []),
  (14, .getfield 10, 3, 10, 0, 2, .null, []),
  (17, .iload_n 1, 1, 0, 0, 0, .null, []),
  (18, .invokevirtual 188, 3, 85, 1, 10, .null, []),
  (21, .istore_n 2, 1, 0, 0, 0, .null, []),
  (22, .iload_n 2, 1, 0, 0, 0, .null, []),
  (23, .ifCond .ge 6, 3, 29, 0, 0, .null, []),
  (26, .bipush (-4), 2, 0, 0, 0, .int (-4), []),
  (28, .ireturn, 1, 0, 0, 0, .null, []),
  (29, .aload_n 0, 1, 0, 0, 0, .null, []),
  (30, .getfield 19, 3, 10, 1, 2, .null, []),
  (33, .aload_n 0, 1, 0, 0, 0, .null, []),
  (34, .getfield 10, 3, 10, 0, 2, .null, []),
  (37, .invokevirtual 189, 3, 2, 1, 2, .null, []),
  (40, .aload_n 0, 1, 0, 0, 0, .null, []),
  (41, .getfield 10, 3, 10, 0, 2, .null, []),
  (44, .iload_n 2, 1, 0, 0, 0, .null, []),
  (45, .invokevirtual 196, 3, 87, 1, 10, .null, []),
  (48, .aload_n 0, 1, 0, 0, 0, .null, []),
  (49, .getfield 10, 3, 10, 0, 2, .null, []),
  (52, .getfield 75, 3, 8, 1, 0, .null, []),
  (55, .ireturn, 1, 0, 0, 0, .null, [])]
def am_c_MG_size : List am_E := [(0, .iload_n 1, 1, 0, 0, 0, .null, []),
  (1, .iconst 1, 1, 0, 0, 0, .int 1, []),
  (2, .if_icmp .lt 9, 3, 11, 0, 0, .null, []),
  (5, .iload_n 1, 1, 0, 0, 0, .null, []),
  (6, .bipush 7, 2, 0, 0, 0, .int 7, []),
  (8, .if_icmp .le 5, 3, 13, 0, 0, .null, []),
  (11, .iconst (-1), 1, 0, 0, 0, .int (-1), []),
  (12, .ireturn, 1, 0, 0, 0, .null, []),
  (13, .iload_n 1, 1, 0, 0, 0, .null, []),
  (14, .aload_n 0, 1, 0, 0, 0, .null, []),
  (15, .getfield 10, 3, 10, 0, 2, .null, []),
  (18, .getfield 95, 3, 8, 0, 0, .null, []),
  (21, .if_icmp .eq 14, 3, 35, 0, 0, .null, []),
  (24, .aload_n 0, 1, 0, 0, 0, .null, []),
  (25, .getfield 10, 3, 10, 0, 2, .null, []),
  (28, .iload_n 1, 1, 0, 0, 0, .null, []),
  (29, .invokevirtual 199, 3, 84, 1, 10, .null, []),
  (32, .ifCond .eq 6, 3, 38, 0, 0, .null, []),
  (35, .bipush (-2), 2, 0, 0, 0, .int (-2), []),
  (37, .ireturn, 1, 0, 0, 0, .null, []),
  (38, .aload_n 0, 1, 0, 0, 0, .null, []),
  (39, .getfield 19, 3, 10, 1, 2, .null, []),
  (42, .aload_n 0, 1, 0, 0, 0, .null, []),
  (43, .getfield 10, 3, 10, 0, 2, .null, []),
  (46, .invokevirtual 189, 3, 2, 1, 2, .null, []),
  (49, .aload_n 0, 1, 0, 0, 0, .null, []),
  (50, .getfield 10, 3, 10, 0, 2, .null, []),
  (53, .getfield 95, 3, 8, 0, 0, .null, []),
  (56, .istore_n 2, 1, 0, 0, 0, .null, []),
  (57, .aload_n 0, 1, 0, 0, 0, .null, []),
  (58, .getfield 10, 3, 10, 0, 2, .null, []),
  (61, .iload_n 1, 1, 0, 0, 0, .null, []),
  (62, .putfield 95, 3, 8, 0, 0, .null, []),
  (65, .iload_n 2, 1, 0, 0, 0, .null, []),
  (66, .ireturn, 1, 0, 0, 0, .null, [])]
def am_c_MG_type : List am_E := [(0, .iload_n 1, 1, 0, 0, 0, .null, []),
  (1, .bipush 32, 2, 0, 0, 0, .int 32, []),
  (3, .if_icmp .lt 9, 3, 12, 0, 0, .null, []),
  (6, .iload_n 1, 1, 0, 0, 0, .null, []),
  (7, .bipush 126, 2, 0, 0, 0, .int 126, []),
  (9, .if_icmp .le 5, 3, 14, 0, 0, .null, []),
  (12, .iconst (-1), 1, 0, 0, 0, .int (-1), []),
  (13, .ireturn, 1, 0, 0, 0, .null, []),
  (14, .aload_n 0, 1, 0, 0, 0, .null, []),
  (15, .getfield 36, 3, 10, 5, 2, .null, []),
  (18, .getfield 202, 3, 5, 3, 2, .null, []),
  (21, .getfield 206, 3, 9, 0, 0, .null, []),
  (24, .bipush 90, 2, 0, 0, 0, .int 90, []),
  (26, .if_icmp .lt 6, 3, 32, 0, 0, .null, []),
  (29, .bipush (-3), 2, 0, 0, 0, .int (-3), []),
  (31, .ireturn, 1, 0, 0, 0, .null, []),
  (32, .aload_n 0, 1, 0, 0, 0, .null, []),
  (33, .getfield 36, 3, 10, 5, 2, .null, []),
  (36, .getfield 202, 3, 5, 3, 2, .null, []),
  (39, .iload_n 1, 1, 0, 0, 0, .null, []),
  (40, .invokevirtual 211, 3, 95, 1, 11, .null, []),
  (43, .aload_n 0, 1, 0, 0, 0, .null, []),
  (44, .getfield 36, 3, 10, 5, 2, .null, []),
  (47, .getfield 202, 3, 5, 3, 2, .null, []),
  (50, .getfield 206, 3, 9, 0, 0, .null, []),
  (53, .ireturn, 1, 0, 0, 0, .null, [])]
def am_c_MG_read : List am_E := [(0, .aload_n 0, 1, 0, 0, 0, .null, []),
  (1, .getfield 36, 3, 10, 5, 2, .null, []),
  (4, .invokevirtual 212, 3, 42, 0, 7, .null, []),
  (7, .istore_n 1, 1, 0, 0, 0, .null, []),
  (8, .aload_n 0, 1, 0, 0, 0, .null, []),
  (9, .getfield 36, 3, 10, 5, 2, .null, []),
  (12, .getfield 202, 3, 5, 3, 2, .null, []),
  (15, .iconst 0, 1, 0, 0, 0, .int 0, []),
  (16, .putfield 206, 3, 9, 0, 0, .null, []),
  (19, .iload_n 1, 1, 0, 0, 0, .null, []),
  (20, .iconst (-1), 1, 0, 0, 0, .int (-1), []),
  (21, .if_icmp .eq 8, 3, 29, 0, 0, .null, []),
  (24, .bipush (-20), 2, 0, 0, 0, .int (-20), []),
  (26, .iload_n 1, 1, 0, 0, 0, .null, []),
  (27, .isub, 1, 0, 0, 0, .null, []),
  (28, .ireturn, 1, 0, 0, 0, .null, []),
  (29, .aload_n 0, 1, 0, 0, 0, .null, []),
  (30, .getfield 19, 3, 10, 1, 2, .null, []),
  (33, .aload_n 0, 1, 0, 0, 0, .null, []),
  (34, .getfield 10, 3, 10, 0, 2, .null, []),
  (37, .invokevirtual 189, 3, 2, 1, 2, .null, []),
  (40, .aload_n 0, 1, 0, 0, 0, .null, []),
  (41, .getfield 10, 3, 10, 0, 2, .null, []),
  (44, .aload_n 0, 1, 0, 0, 0, .null, []),
  (45, .getfield 36, 3, 10, 5, 2, .null, []),
  (48, .invokevirtual 215, 3, 80, 1, 10, .null, []),
  (51, .aload_n 0, 1, 0, 0, 0, .null, []),
  (52, .getfield 10, 3, 10, 0, 2, .null, []),
  (55, .getfield 75, 3, 8, 1, 0, .null, []),
  (58, .ireturn, 1, 0, 0, 0, .null, [])]
def am_c_MG_drift : List am_E := [(0, .iload_n 1, 1, 0, 0, 0, .null, []),
  (1, .iconst 1, 1, 0, 0, 0, .int 1, []),
  (2, .if_icmp .lt 9, 3, 11, 0, 0, .null, []),
  (5, .iload_n 1, 1, 0, 0, 0, .null, []),
  (6, .bipush 40, 2, 0, 0, 0, .int 40, []),
  (8, .if_icmp .le 5, 3, 13, 0, 0, .null, []),
  (11, .iconst (-1), 1, 0, 0, 0, .int (-1), []),
  (12, .ireturn, 1, 0, 0, 0, .null, []),
  (13, .iconst 0, 1, 0, 0, 0, .int 0, []),
  (14, .istore_n 2, 1, 0, 0, 0, .null, []),
  (15, .iload_n 2, 1, 0, 0, 0, .null, [(0, 0)]),
  (16, .iload_n 1, 1, 0, 0, 0, .null, []),
  (17, .if_icmp .ge 27, 3, 44, 0, 0, .null, []),
  (20, .aload_n 0, 1, 0, 0, 0, .null, []),
  (21, .getfield 19, 3, 10, 1, 2, .null, []),
  (24, .aload_n 0, 1, 0, 0, 0, .null, []),
  (25, .getfield 10, 3, 10, 0, 2, .null, []),
  (28, .invokevirtual 189, 3, 2, 1, 2, .null, []),
  (31, .aload_n 0, 1, 0, 0, 0, .null, []),
  (32, .getfield 10, 3, 10, 0, 2, .null, []),
  (35, .invokevirtual 219, 3, 88, 0, 10, .null, []),
  (38, .iinc 2 1, 3, 0, 0, 0, .int 1, []),
  (41, .goto (-26), 3, 15, 0, 0, .null, []),
  (44, .aload_n 0, 1, 0, 0, 0, .null, []),
  (45, .getfield 10, 3, 10, 0, 2, .null, []),
  (48, .getfield 75, 3, 8, 1, 0, .null, []),
  (51, .ireturn, 1, 0, 0, 0, .null, [])]
def am_c_MG_undo : List am_E := [(0, .aload_n 0, 1, 0, 0, 0, .null, []),
  (1, .getfield 19, 3, 10, 1, 2, .null, []),
  (4, .getfield 129, 3, 0, 0, 0, .null, []),
  (7, .ifCond .ne 6, 3, 13, 0, 0, .null, []),
  (10, .bipush (-4), 2, 0, 0, 0, .int (-4), []),
  (12, .ireturn, 1, 0, 0, 0, .null, []),
  (13, .aload_n 0, 1, 0, 0, 0, .null, []),
  (14, .getfield 19, 3, 10, 1, 2, .null, []),
  (17, .aload_n 0, 1, 0, 0, 0, .null, []),
  (18, .getfield 10, 3, 10, 0, 2, .null, []),
  (21, .invokevirtual 222, 3, 4, 1, 2, .null, []),
  (24, .aload_n 0, 1, 0, 0, 0, .null, []),
  (25, .getfield 19, 3, 10, 1, 2, .null, []),
  (28, .getfield 129, 3, 0, 0, 0, .null, []),
  (31, .ireturn, 1, 0, 0, 0, .null, [])]
def am_c_MG_seed : List am_E := [(0, .iload_n 1, 1, 0, 0, 0, .null, []),
  (1, .ifCond .ge 5, 3, 6, 0, 0, .null, []),
  (4, .iconst (-1), 1, 0, 0, 0, .int (-1), []),
  (5, .ireturn, 1, 0, 0, 0, .null, []),
  (6, .aload_n 0, 1, 0, 0, 0, .null, []),
  (7, .getfield 10, 3, 10, 0, 2, .null, []),
  (10, .getfield 225, 3, 8, 3, 0, .null, []),
  (13, .istore_n 2, 1, 0, 0, 0, .null, []),
  (14, .aload_n 0, 1, 0, 0, 0, .null, []),
  (15, .getfield 10, 3, 10, 0, 2, .null, []),
  (18, .iload_n 1, 1, 0, 0, 0, .null, []),
  (19, .putfield 225, 3, 8, 3, 0, .null, []),
  (22, .iload_n 2, 1, 0, 0, 0, .null, []),
  (23, .ireturn, 1, 0, 0, 0, .null, [])]
def am_c_MG_image : List am_E := [(0, .aload_n 0, 1, 0, 0, 0, .null, []),
  (1, .getfield 23, 3, 10, 2, 2, .null, []),
  (4, .aload_n 0, 1, 0, 0, 0, .null, []),
  (5, .getfield 10, 3, 10, 0, 2, .null, []),
  (8, .invokevirtual 228, 3, 79, 1, 10, .null, []),
  (11, .aload_n 0, 1, 0, 0, 0, .null, []),
  (12, .getfield 26, 3, 10, 3, 2, .null, []),
  (15, .aload_n 0, 1, 0, 0, 0, .null, []),
  (16, .getfield 19, 3, 10, 1, 2, .null, []),
  (19, .invokevirtual 231, 3, 5, 1, 2, .null, []),
  (22, .aload_n 0, 1, 0, 0, 0, .null, []),
  (23, .iconst 1, 1, 0, 0, 0, .int 1, []),
  (24, .putfield 29, 3, 10, 4, 1, .null, []),
  (27, .iconst 1, 1, 0, 0, 0, .int 1, []),
  (28, .ireturn, 1, 0, 0, 0, .null, [])]
def am_c_MG_restore : List am_E := [(0, .aload_n 0, 1, 0, 0, 0, .null, []),
  (1, .getfield 29, 3, 10, 4, 1, .null, []),
  (4, .ifCond .ne 6, 3, 10, 0, 0, .null, []),
  (7, .bipush (-4), 2, 0, 0, 0, .int (-4), []),
  (9, .ireturn, 1, 0, 0, 0, .null, []),
  (10, .aload_n 0, 1, 0, 0, 0, .null, []),
  (11, .getfield 10, 3, 10, 0, 2, .null, []),
  (14, .aload_n 0, 1, 0, 0, 0, .null, []),
  (15, .getfield 23, 3, 10, 2, 2, .null, []),
  (18, .invokevirtual 228, 3, 79, 1, 10, .null, []),
  (21, .aload_n 0, 1, 0, 0, 0, .null, []),
  (22, .getfield 19, 3, 10, 1, 2, .null, []),
  (25, .aload_n 0, 1, 0, 0, 0, .null, []),
  (26, .getfield 26, 3, 10, 3, 2, .null, []),
  (29, .invokevirtual 231, 3, 5, 1, 2, .null, []),
  (32, .iconst 1, 1, 0, 0, 0, .int 1, []),
  (33, .ireturn, 1, 0, 0, 0, .null, [])]
def am_c_MG_keep_1 : List am_E := [(100, .aload_n 0, 1, 0, 0, 0, .null, []),
  (101, .getfield 10, 3, 10, 0, 2, .null, []),
  (104, .invokevirtual 189, 3, 2, 1, 2, .null, []),
  (107, .aload_n 0, 1, 0, 0, 0, .null, []),
  (108, .getfield 10, 3, 10, 0, 2, .null, []),
  (111, .getfield 120, 3, 8, 4, 2, .null, []),
  (114, .iload_n 1, 1, 0, 0, 0, .null, []),
  (115, .aload_n 0, 1, 0, 0, 0, .null, []),
  (116, .getfield 10, 3, 10, 0, 2, .null, []),
  (119, .aload_n 0, 1, 0, 0, 0, .null, []),
  (120, .getfield 64, 3, 10, 9, 2, .null, []),
  (123, .invokevirtual 247, 3, 27, 3, 5, .null, []),
  (126, .aload_n 0, 1, 0, 0, 0, .null, []),
  (127, .getfield 10, 3, 10, 0, 2, .null, []),
  (130, .getfield 120, 3, 8, 4, 2, .null, []),
  (133, .getfield 124, 3, 3, 0, 0, .null, []),
  (136, .ireturn, 1, 0, 0, 0, .null, [])]
def am_c_MG_keep : List am_E := (0, .iload_n 1, 1, 0, 0, 0, .null, []) ::
  (1, .ifCond .lt 23, 3, 24, 0, 0, .null, []) ::
  (4, .iload_n 1, 1, 0, 0, 0, .null, []) ::
  (5, .bipush 99, 2, 0, 0, 0, .int 99, []) ::
  (7, .if_icmp .gt 17, 3, 24, 0, 0, .null, []) ::
  (10, .iload_n 2, 1, 0, 0, 0, .null, []) ::
  (11, .invokestatic 234, 3, 124, 1, 0, .null, []) ::
  (14, .ifCond .eq 10, 3, 24, 0, 0, .null, []) ::
  (17, .iload_n 3, 1, 0, 0, 0, .null, []) ::
  (18, .invokestatic 237, 3, 125, 1, 0, .null, []) ::
  (21, .ifCond .ne 5, 3, 26, 0, 0, .null, []) ::
  (24, .iconst (-1), 1, 0, 0, 0, .int (-1), []) ::
  (25, .ireturn, 1, 0, 0, 0, .null, []) ::
  (26, .aload_n 0, 1, 0, 0, 0, .null, []) ::
  (27, .getfield 70, 3, 10, 10, 2, .null, []) ::
  (30, .iload_n 2, 1, 0, 0, 0, .null, []) ::
  (31, .aaload, 1, 17, 0, 0, .null, []) ::
  (32, .iload_n 3, 1, 0, 0, 0, .null, []) ::
  (33, .iload 4, 2, 0, 0, 0, .null, []) ::
  (35, .aload_n 0, 1, 0, 0, 0, .null, []) ::
  (36, .getfield 10, 3, 10, 0, 2, .null, []) ::
  (39, .getfield 75, 3, 8, 1, 0, .null, []) ::
  (42, .invokevirtual 240, 3, 74, 3, 9, .null, []) ::
  (45, .istore 5, 2, 0, 0, 0, .null, []) ::
  (47, .iload 5, 2, 0, 0, 0, .null, []) ::
  (49, .ifCond .ge 6, 3, 55, 0, 0, .null, []) ::
  (52, .iload 5, 2, 0, 0, 0, .null, []) ::
  (54, .ireturn, 1, 0, 0, 0, .null, []) ::
  (55, .aload_n 0, 1, 0, 0, 0, .null, []) ::
  (56, .getfield 10, 3, 10, 0, 2, .null, []) ::
  (59, .getfield 75, 3, 8, 1, 0, .null, []) ::
  (62, .ifCond .eq 31, 3, 93, 0, 0, .null, []) ::
  (65, .aload_n 0, 1, 0, 0, 0, .null, []) ::
  (66, .getfield 64, 3, 10, 9, 2, .null, []) ::
  (69, .aload_n 0, 1, 0, 0, 0, .null, []) ::
  (70, .getfield 70, 3, 10, 10, 2, .null, []) ::
  (73, .iload_n 2, 1, 0, 0, 0, .null, []) ::
  (74, .aaload, 1, 17, 0, 0, .null, []) ::
  (75, .iload 4, 2, 0, 0, 0, .null, []) ::
  (77, .aload_n 0, 1, 0, 0, 0, .null, []) ::
  (78, .getfield 10, 3, 10, 0, 2, .null, []) ::
  (81, .getfield 75, 3, 8, 1, 0, .null, []) ::
  (84, .iconst 0, 1, 0, 0, 0, .int 0, []) ::
  (85, .bipush 99, 2, 0, 0, 0, .int 99, []) ::
  (87, .invokevirtual 243, 3, 63, 5, 8, .null, []) ::
  (90, .ifCond .ne 6, 3, 96, 0, 0, .null, []) ::
  (93, .bipush (-2), 2, 0, 0, 0, .int (-2), []) ::
  (95, .ireturn, 1, 0, 0, 0, .null, []) ::
  (96, .aload_n 0, 1, 0, 0, 0, .null, []) ::
  (97, .getfield 19, 3, 10, 1, 2, .null, []) :: am_c_MG_keep_1
def am_c_MG_what : List am_E := [(0, .iload_n 1, 1, 0, 0, 0, .null, []),
  (1, .invokestatic 234, 3, 124, 1, 0, .null, []),
  (4, .ifCond .eq 23, 3, 27, 0, 0, .null, []),
  (7, .iload_n 2, 1, 0, 0, 0, .null, []),
  (8, .invokestatic 237, 3, 125, 1, 0, .null, []),
  (11, .ifCond .eq 16, 3, 27, 0, 0, .null, []),
  (14, .iload 4, 2, 0, 0, 0, .null, []),
  (16, .iconst 1, 1, 0, 0, 0, .int 1, []),
  (17, .if_icmp .lt 10, 3, 27, 0, 0, .null, []),
  (20, .iload 4, 2, 0, 0, 0, .null, []),
  (22, .bipush 12, 2, 0, 0, 0, .int 12, []),
  (24, .if_icmp .le 5, 3, 29, 0, 0, .null, []),
  (27, .iconst (-1), 1, 0, 0, 0, .int (-1), []),
  (28, .ireturn, 1, 0, 0, 0, .null, []),
  (29, .aload_n 0, 1, 0, 0, 0, .null, []),
  (30, .getfield 70, 3, 10, 10, 2, .null, []),
  (33, .iload_n 1, 1, 0, 0, 0, .null, []),
  (34, .aaload, 1, 17, 0, 0, .null, []),
  (35, .iload_n 2, 1, 0, 0, 0, .null, []),
  (36, .iload_n 3, 1, 0, 0, 0, .null, []),
  (37, .iload 4, 2, 0, 0, 0, .null, []),
  (39, .invokevirtual 240, 3, 74, 3, 9, .null, []),
  (42, .istore 5, 2, 0, 0, 0, .null, []),
  (44, .iload 5, 2, 0, 0, 0, .null, []),
  (46, .ifCond .ge 6, 3, 52, 0, 0, .null, []),
  (49, .iload 5, 2, 0, 0, 0, .null, []),
  (51, .ireturn, 1, 0, 0, 0, .null, []),
  (52, .aload_n 0, 1, 0, 0, 0, .null, []),
  (53, .getfield 64, 3, 10, 9, 2, .null, []),
  (56, .aload_n 0, 1, 0, 0, 0, .null, []),
  (57, .getfield 70, 3, 10, 10, 2, .null, []),
  (60, .iload_n 1, 1, 0, 0, 0, .null, []),
  (61, .aaload, 1, 17, 0, 0, .null, []),
  (62, .iload_n 3, 1, 0, 0, 0, .null, []),
  (63, .iload 4, 2, 0, 0, 0, .null, []),
  (65, .iconst 1, 1, 0, 0, 0, .int 1, []),
  (66, .aload_n 0, 1, 0, 0, 0, .null, []),
  (67, .getfield 10, 3, 10, 0, 2, .null, []),
  (70, .invokevirtual 148, 3, 81, 0, 10, .null, []),
  (73, .invokevirtual 243, 3, 63, 5, 8, .null, []),
  (76, .ifCond .eq 17, 3, 93, 0, 0, .null, []),
  (79, .aload_n 0, 1, 0, 0, 0, .null, []),
  (80, .getfield 64, 3, 10, 9, 2, .null, []),
  (83, .aload_n 0, 1, 0, 0, 0, .null, []),
  (84, .getfield 10, 3, 10, 0, 2, .null, []),
  (87, .invokevirtual 251, 3, 64, 1, 8, .null, []),
  (90, .goto 5, 3, 95, 0, 0, .null, []),
  (93, .bipush (-2), 2, 0, 0, 0, .int (-2), []),
  (95, .ireturn, 1, 0, 0, 0, .null, [])]
def am_c_MG_film : List am_E := [(0, .iload_n 1, 1, 0, 0, 0, .null, []),
  (1, .invokestatic 234, 3, 124, 1, 0, .null, []),
  (4, .ifCond .eq 10, 3, 14, 0, 0, .null, []),
  (7, .iload_n 2, 1, 0, 0, 0, .null, []),
  (8, .invokestatic 237, 3, 125, 1, 0, .null, []),
  (11, .ifCond .ne 5, 3, 16, 0, 0, .null, []),
  (14, .iconst (-1), 1, 0, 0, 0, .int (-1), []),
  (15, .ireturn, 1, 0, 0, 0, .null, []),
  (16, .aload_n 0, 1, 0, 0, 0, .null, []),
  (17, .getfield 70, 3, 10, 10, 2, .null, []),
  (20, .iload_n 1, 1, 0, 0, 0, .null, []),
  (21, .aaload, 1, 17, 0, 0, .null, []),
  (22, .iload_n 2, 1, 0, 0, 0, .null, []),
  (23, .iload_n 3, 1, 0, 0, 0, .null, []),
  (24, .aload_n 0, 1, 0, 0, 0, .null, []),
  (25, .getfield 10, 3, 10, 0, 2, .null, []),
  (28, .getfield 75, 3, 8, 1, 0, .null, []),
  (31, .invokevirtual 240, 3, 74, 3, 9, .null, []),
  (34, .istore 4, 2, 0, 0, 0, .null, []),
  (36, .iload 4, 2, 0, 0, 0, .null, []),
  (38, .ifCond .ge 6, 3, 44, 0, 0, .null, []),
  (41, .iload 4, 2, 0, 0, 0, .null, []),
  (43, .ireturn, 1, 0, 0, 0, .null, []),
  (44, .iconst 0, 1, 0, 0, 0, .int 0, []),
  (45, .istore 5, 2, 0, 0, 0, .null, []),
  (47, .iload 5, 2, 0, 0, 0, .null, [(0, 0)]),
  (49, .aload_n 0, 1, 0, 0, 0, .null, []),
  (50, .getfield 10, 3, 10, 0, 2, .null, []),
  (53, .getfield 75, 3, 8, 1, 0, .null, []),
  (56, .if_icmp .ge 33, 3, 89, 0, 0, .null, []),
  (59, .aload_n 0, 1, 0, 0, 0, .null, []),
  (60, .getfield 70, 3, 10, 10, 2, .null, []),
  (63, .iload_n 1, 1, 0, 0, 0, .null, []),
  (64, .aaload, 1, 17, 0, 0, .null, []),
  (65, .iload_n 3, 1, 0, 0, 0, .null, []),
  (66, .iload 5, 2, 0, 0, 0, .null, []),
  (68, .iadd, 1, 0, 0, 0, .null, []),
  (69, .aload_n 0, 1, 0, 0, 0, .null, []),
  (70, .getfield 10, 3, 10, 0, 2, .null, []),
  (73, .getfield 79, 3, 8, 2, 2, .null, []),
  (76, .iload 5, 2, 0, 0, 0, .null, []),
  (78, .iaload, 1, 0, 0, 0, .null, []),
  (79, .i2l, 1, 0, 0, 0, .null, []),
  (80, .invokevirtual 255, 3, 76, 2, 9, .null, []),
  (83, .iinc 5 1, 3, 0, 0, 0, .int 1, []),
  (86, .goto (-39), 3, 47, 0, 0, .null, []),
  (89, .aload_n 0, 1, 0, 0, 0, .null, []),
  (90, .getfield 10, 3, 10, 0, 2, .null, []),
  (93, .getfield 75, 3, 8, 1, 0, .null, []),
  (96, .ireturn, 1, 0, 0, 0, .null, [])]
def am_c_MG_sheet : List am_E := [(0, .iload_n 1, 1, 0, 0, 0, .null, []),
  (1, .invokestatic 234, 3, 124, 1, 0, .null, []),
  (4, .ifCond .eq 16, 3, 20, 0, 0, .null, []),
  (7, .iload_n 2, 1, 0, 0, 0, .null, []),
  (8, .invokestatic 237, 3, 125, 1, 0, .null, []),
  (11, .ifCond .eq 9, 3, 20, 0, 0, .null, []),
  (14, .iload_n 3, 1, 0, 0, 0, .null, []),
  (15, .bipush 24, 2, 0, 0, 0, .int 24, []),
  (17, .if_icmp .le 5, 3, 22, 0, 0, .null, []),
  (20, .iconst (-1), 1, 0, 0, 0, .int (-1), []),
  (21, .ireturn, 1, 0, 0, 0, .null, []),
  (22, .iload_n 3, 1, 0, 0, 0, .null, []),
  (23, .ifCond .ge 6, 3, 29, 0, 0, .null, []),
  (26, .bipush (-14), 2, 0, 0, 0, .int (-14), []),
  (28, .ireturn, 1, 0, 0, 0, .null, []),
  (29, .aload_n 0, 1, 0, 0, 0, .null, []),
  (30, .getfield 70, 3, 10, 10, 2, .null, []),
  (33, .iload_n 1, 1, 0, 0, 0, .null, []),
  (34, .aaload, 1, 17, 0, 0, .null, []),
  (35, .iload_n 2, 1, 0, 0, 0, .null, []),
  (36, .iload_n 3, 1, 0, 0, 0, .null, []),
  (37, .invokevirtual 259, 3, 72, 2, 9, .null, []),
  (40, .iload_n 3, 1, 0, 0, 0, .null, []),
  (41, .ireturn, 1, 0, 0, 0, .null, [])]
def am_c_MG_drop : List am_E := [(0, .iload_n 1, 1, 0, 0, 0, .null, []),
  (1, .invokestatic 234, 3, 124, 1, 0, .null, []),
  (4, .ifCond .ne 5, 3, 9, 0, 0, .null, []),
  (7, .iconst (-1), 1, 0, 0, 0, .int (-1), []),
  (8, .ireturn, 1, 0, 0, 0, .null, []),
  (9, .aload_n 0, 1, 0, 0, 0, .null, []),
  (10, .getfield 70, 3, 10, 10, 2, .null, []),
  (13, .iload_n 1, 1, 0, 0, 0, .null, []),
  (14, .aaload, 1, 17, 0, 0, .null, []),
  (15, .getfield 263, 3, 7, 0, 1, .null, []),
  (18, .ifCond .ne 6, 3, 24, 0, 0, .null, []),
  (21, .bipush (-11), 2, 0, 0, 0, .int (-11), []),
  (23, .ireturn, 1, 0, 0, 0, .null, []),
  (24, .aload_n 0, 1, 0, 0, 0, .null, []),
  (25, .getfield 70, 3, 10, 10, 2, .null, []),
  (28, .iload_n 1, 1, 0, 0, 0, .null, []),
  (29, .aaload, 1, 17, 0, 0, .null, []),
  (30, .iconst 0, 1, 0, 0, 0, .int 0, []),
  (31, .putfield 263, 3, 7, 0, 1, .null, []),
  (34, .aload_n 0, 1, 0, 0, 0, .null, []),
  (35, .getfield 70, 3, 10, 10, 2, .null, []),
  (38, .iload_n 1, 1, 0, 0, 0, .null, []),
  (39, .aaload, 1, 17, 0, 0, .null, []),
  (40, .getfield 266, 3, 7, 2, 0, .null, []),
  (43, .ireturn, 1, 0, 0, 0, .null, [])]
def am_c_MG_item : List am_E := [(0, .iload_n 1, 1, 0, 0, 0, .null, []),
  (1, .invokestatic 234, 3, 124, 1, 0, .null, []),
  (4, .ifCond .eq 10, 3, 14, 0, 0, .null, []),
  (7, .iload_n 2, 1, 0, 0, 0, .null, []),
  (8, .invokestatic 237, 3, 125, 1, 0, .null, []),
  (11, .ifCond .ne 5, 3, 16, 0, 0, .null, []),
  (14, .iconst (-1), 1, 0, 0, 0, .int (-1), []),
  (15, .ireturn, 1, 0, 0, 0, .null, []),
  (16, .aload_n 0, 1, 0, 0, 0, .null, []),
  (17, .getfield 70, 3, 10, 10, 2, .null, []),
  (20, .iload_n 1, 1, 0, 0, 0, .null, []),
  (21, .aaload, 1, 17, 0, 0, .null, []),
  (22, .iload_n 2, 1, 0, 0, 0, .null, []),
  (23, .iload_n 3, 1, 0, 0, 0, .null, []),
  (24, .iconst 1, 1, 0, 0, 0, .int 1, []),
  (25, .invokevirtual 240, 3, 74, 3, 9, .null, []),
  (28, .istore 6, 2, 0, 0, 0, .null, []),
  (30, .iload 6, 2, 0, 0, 0, .null, []),
  (32, .ifCond .ge 6, 3, 38, 0, 0, .null, []),
  (35, .iload 6, 2, 0, 0, 0, .null, []),
  (37, .ireturn, 1, 0, 0, 0, .null, []),
  (38, .aload_n 0, 1, 0, 0, 0, .null, []),
  (39, .getfield 70, 3, 10, 10, 2, .null, []),
  (42, .iload_n 1, 1, 0, 0, 0, .null, []),
  (43, .aaload, 1, 17, 0, 0, .null, []),
  (44, .iload_n 3, 1, 0, 0, 0, .null, []),
  (45, .lload 4, 2, 0, 0, 0, .null, []),
  (47, .invokevirtual 255, 3, 76, 2, 9, .null, []),
  (50, .iconst 1, 1, 0, 0, 0, .int 1, []),
  (51, .ireturn, 1, 0, 0, 0, .null, [])]
def am_c_MG_copy_1 : List am_E := [(104, .iload 4, 2, 0, 0, 0, .null, []),
  (106, .iload 5, 2, 0, 0, 0, .null, []),
  (108, .invokestatic 278, 3, 0, 5, 2, .null, []),
  (111, .iload 5, 2, 0, 0, 0, .null, []),
  (113, .ireturn, 1, 0, 0, 0, .null, [])]
def am_c_MG_copy : List am_E := (0, .iload_n 1, 1, 0, 0, 0, .null, []) ::
  (1, .invokestatic 234, 3, 124, 1, 0, .null, []) ::
  (4, .ifCond .eq 10, 3, 14, 0, 0, .null, []) ::
  (7, .iload_n 3, 1, 0, 0, 0, .null, []) ::
  (8, .invokestatic 234, 3, 124, 1, 0, .null, []) ::
  (11, .ifCond .ne 5, 3, 16, 0, 0, .null, []) ::
  (14, .iconst (-1), 1, 0, 0, 0, .int (-1), []) ::
  (15, .ireturn, 1, 0, 0, 0, .null, []) ::
  (16, .aload_n 0, 1, 0, 0, 0, .null, []) ::
  (17, .getfield 70, 3, 10, 10, 2, .null, []) ::
  (20, .iload_n 1, 1, 0, 0, 0, .null, []) ::
  (21, .aaload, 1, 17, 0, 0, .null, []) ::
  (22, .astore 6, 2, 0, 0, 0, .null, []) ::
  (24, .aload_n 0, 1, 0, 0, 0, .null, []) ::
  (25, .getfield 70, 3, 10, 10, 2, .null, []) ::
  (28, .iload_n 3, 1, 0, 0, 0, .null, []) ::
  (29, .aaload, 1, 17, 0, 0, .null, []) ::
  (30, .astore 7, 2, 0, 0, 0, .null, []) ::
  (32, .aload 6, 2, 0, 0, 0, .null, []) ::
  (34, .getfield 263, 3, 7, 0, 1, .null, []) ::
  (37, .ifCond .eq 11, 3, 48, 0, 0, .null, []) ::
  (40, .aload 7, 2, 0, 0, 0, .null, []) ::
  (42, .getfield 263, 3, 7, 0, 1, .null, []) ::
  (45, .ifCond .ne 6, 3, 51, 0, 0, .null, []) ::
  (48, .bipush (-11), 2, 0, 0, 0, .int (-11), []) ::
  (50, .ireturn, 1, 0, 0, 0, .null, []) ::
  (51, .aload 6, 2, 0, 0, 0, .null, []) ::
  (53, .getfield 267, 3, 7, 1, 0, .null, []) ::
  (56, .aload 7, 2, 0, 0, 0, .null, []) ::
  (58, .getfield 267, 3, 7, 1, 0, .null, []) ::
  (61, .if_icmp .eq 6, 3, 67, 0, 0, .null, []) ::
  (64, .bipush (-12), 2, 0, 0, 0, .int (-12), []) ::
  (66, .ireturn, 1, 0, 0, 0, .null, []) ::
  (67, .aload 6, 2, 0, 0, 0, .null, []) ::
  (69, .iload_n 2, 1, 0, 0, 0, .null, []) ::
  (70, .iload 5, 2, 0, 0, 0, .null, []) ::
  (72, .invokevirtual 270, 3, 73, 2, 9, .null, []) ::
  (75, .ifCond .eq 15, 3, 90, 0, 0, .null, []) ::
  (78, .aload 7, 2, 0, 0, 0, .null, []) ::
  (80, .iload 4, 2, 0, 0, 0, .null, []) ::
  (82, .iload 5, 2, 0, 0, 0, .null, []) ::
  (84, .invokevirtual 270, 3, 73, 2, 9, .null, []) ::
  (87, .ifCond .ne 6, 3, 93, 0, 0, .null, []) ::
  (90, .bipush (-13), 2, 0, 0, 0, .int (-13), []) ::
  (92, .ireturn, 1, 0, 0, 0, .null, []) ::
  (93, .aload 6, 2, 0, 0, 0, .null, []) ::
  (95, .getfield 274, 3, 7, 3, 2, .null, []) ::
  (98, .iload_n 2, 1, 0, 0, 0, .null, []) ::
  (99, .aload 7, 2, 0, 0, 0, .null, []) ::
  (101, .getfield 274, 3, 7, 3, 2, .null, []) :: am_c_MG_copy_1
def am_c_MG_isSheet : List am_E := [(0, .iload_n 0, 1, 0, 0, 0, .null, []),
  (1, .ifCond .lt 12, 3, 13, 0, 0, .null, []),
  (4, .iload_n 0, 1, 0, 0, 0, .null, []),
  (5, .iconst 4, 1, 0, 0, 0, .int 4, []),
  (6, .if_icmp .ge 7, 3, 13, 0, 0, .null, []),
  (9, .iconst 1, 1, 0, 0, 0, .int 1, []),
  (10, .goto 4, 3, 14, 0, 0, .null, []),
  (13, .iconst 0, 1, 0, 0, 0, .int 0, []),
  (14, .ireturn, 1, 0, 0, 0, .null, [])]
def am_c_MG_isLane : List am_E := [(0, .iload_n 0, 1, 0, 0, 0, .null, []),
  (1, .ifCond .lt 12, 3, 13, 0, 0, .null, []),
  (4, .iload_n 0, 1, 0, 0, 0, .null, []),
  (5, .iconst 3, 1, 0, 0, 0, .int 3, []),
  (6, .if_icmp .gt 7, 3, 13, 0, 0, .null, []),
  (9, .iconst 1, 1, 0, 0, 0, .int 1, []),
  (10, .goto 4, 3, 14, 0, 0, .null, []),
  (13, .iconst 0, 1, 0, 0, 0, .int 0, []),
  (14, .ireturn, 1, 0, 0, 0, .null, [])]
def am_c_MG_oneIf : List am_E := [(0, .iload_n 0, 1, 0, 0, 0, .null, []),
  (1, .ifCond .eq 7, 3, 8, 0, 0, .null, []),
  (4, .iconst 1, 1, 0, 0, 0, .int 1, []),
  (5, .goto 4, 3, 9, 0, 0, .null, []),
  (8, .iconst 0, 1, 0, 0, 0, .int 0, []),
  (9, .ireturn, 1, 0, 0, 0, .null, [])]
def am_c_MG_strength : List am_E := [(0, .aload_n 0, 1, 0, 0, 0, .null, []),
  (1, .getfield 10, 3, 10, 0, 2, .null, []),
  (4, .invokevirtual 113, 3, 93, 0, 10, .null, []),
  (7, .istore_n 2, 1, 0, 0, 0, .null, []),
  (8, .iload_n 1, 1, 0, 0, 0, .null, []),
  (9, .iconst 2, 1, 0, 0, 0, .int 2, []),
  (10, .if_icmp .ne 5, 3, 15, 0, 0, .null, []),
  (13, .iload_n 2, 1, 0, 0, 0, .null, []),
  (14, .ireturn, 1, 0, 0, 0, .null, []),
  (15, .aload_n 0, 1, 0, 0, 0, .null, []),
  (16, .getfield 43, 3, 10, 6, 2, .null, []),
  (19, .aload_n 0, 1, 0, 0, 0, .null, []),
  (20, .getfield 10, 3, 10, 0, 2, .null, []),
  (23, .invokevirtual 98, 3, 7, 1, 3, .null, []),
  (26, .aload_n 0, 1, 0, 0, 0, .null, []),
  (27, .getfield 43, 3, 10, 6, 2, .null, []),
  (30, .invokevirtual 284, 3, 10, 0, 3, .null, []),
  (33, .istore_n 3, 1, 0, 0, 0, .null, []),
  (34, .iload_n 1, 1, 0, 0, 0, .null, []),
  (35, .iconst 4, 1, 0, 0, 0, .int 4, []),
  (36, .if_icmp .ne 5, 3, 41, 0, 0, .null, []),
  (39, .iload_n 3, 1, 0, 0, 0, .null, []),
  (40, .ireturn, 1, 0, 0, 0, .null, []),
  (41, .iload_n 2, 1, 0, 0, 0, .null, []),
  (42, .ifCond .ne 6, 3, 48, 0, 0, .null, []),
  (45, .bipush (-4), 2, 0, 0, 0, .int (-4), []),
  (47, .ireturn, 1, 0, 0, 0, .null, []),
  (48, .iload_n 3, 1, 0, 0, 0, .null, []),
  (49, .iload_n 1, 1, 0, 0, 0, .null, []),
  (50, .iconst 5, 1, 0, 0, 0, .int 5, []),
  (51, .if_icmp .ne 11, 3, 62, 0, 0, .null, []),
  (54, .iload_n 2, 1, 0, 0, 0, .null, []),
  (55, .iconst 1, 1, 0, 0, 0, .int 1, []),
  (56, .isub, 1, 0, 0, 0, .null, []),
  (57, .iconst 2, 1, 0, 0, 0, .int 2, []),
  (58, .idiv, 1, 0, 0, 0, .null, []),
  (59, .goto 6, 3, 65, 0, 0, .null, []),
  (62, .iload_n 2, 1, 0, 0, 0, .null, []),
  (63, .iconst 1, 1, 0, 0, 0, .int 1, []),
  (64, .isub, 1, 0, 0, 0, .null, []),
  (65, .invokestatic 287, 3, 0, 2, 4, .null, []),
  (68, .ireturn, 1, 0, 0, 0, .null, [])]
def am_c_MG_power : List am_E := [(0, .iconst 1, 1, 0, 0, 0, .int 1, []),
  (1, .istore_n 2, 1, 0, 0, 0, .null, []),
  (2, .iconst 0, 1, 0, 0, 0, .int 0, []),
  (3, .istore_n 3, 1, 0, 0, 0, .null, []),
  (4, .iload_n 3, 1, 0, 0, 0, .null, [(0, 0)]),
  (5, .iload_n 1, 1, 0, 0, 0, .null, []),
  (6, .if_icmp .ge 13, 3, 19, 0, 0, .null, []),
  (9, .iload_n 2, 1, 0, 0, 0, .null, []),
  (10, .iload_n 0, 1, 0, 0, 0, .null, []),
  (11, .imul, 1, 0, 0, 0, .null, []),
  (12, .istore_n 2, 1, 0, 0, 0, .null, []),
  (13, .iinc 3 1, 3, 0, 0, 0, .int 1, []),
  (16, .goto (-12), 3, 4, 0, 0, .null, []),
  (19, .iload_n 2, 1, 0, 0, 0, .null, []),
  (20, .ireturn, 1, 0, 0, 0, .null, [])]
def am_c_MG_ofFraction : List am_E := [(0, .iload_n 0, 1, 0, 0, 0, .null, []),
  (1, .iload_n 1, 1, 0, 0, 0, .null, []),
  (2, .invokestatic 292, 3, 130, 2, 0, .null, []),
  (5, .istore_n 3, 1, 0, 0, 0, .null, []),
  (6, .iload_n 3, 1, 0, 0, 0, .null, []),
  (7, .ifCond .ne 5, 3, 12, 0, 0, .null, []),
  (10, .iload_n 2, 1, 0, 0, 0, .null, []),
  (11, .ireturn, 1, 0, 0, 0, .null, []),
  (12, .iload_n 2, 1, 0, 0, 0, .null, []),
  (13, .ifCond .ne 7, 3, 20, 0, 0, .null, []),
  (16, .iload_n 0, 1, 0, 0, 0, .null, []),
  (17, .goto 4, 3, 21, 0, 0, .null, []),
  (20, .iload_n 1, 1, 0, 0, 0, .null, []),
  (21, .iload_n 3, 1, 0, 0, 0, .null, []),
  (22, .idiv, 1, 0, 0, 0, .null, []),
  (23, .ireturn, 1, 0, 0, 0, .null, [])]
def am_c_MG_commonDivisor : List am_E := [(0, .iload_n 0, 1, 0, 0, 0, .null, []),
  (1, .istore_n 2, 1, 0, 0, 0, .null, []),
  (2, .iload_n 1, 1, 0, 0, 0, .null, []),
  (3, .istore_n 3, 1, 0, 0, 0, .null, []),
  (4, .iconst 0, 1, 0, 0, 0, .int 0, []),
  (5, .istore 4, 2, 0, 0, 0, .null, []),
  (7, .iload_n 3, 1, 0, 0, 0, .null, [(0, 0)]),
  (8, .ifCond .eq 26, 3, 34, 0, 0, .null, []),
  (11, .iload 4, 2, 0, 0, 0, .null, []),
  (13, .bipush 64, 2, 0, 0, 0, .int 64, []),
  (15, .if_icmp .ge 19, 3, 34, 0, 0, .null, []),
  (18, .iload_n 2, 1, 0, 0, 0, .null, []),
  (19, .iload_n 3, 1, 0, 0, 0, .null, []),
  (20, .irem, 1, 0, 0, 0, .null, []),
  (21, .istore 5, 2, 0, 0, 0, .null, []),
  (23, .iload_n 3, 1, 0, 0, 0, .null, []),
  (24, .istore_n 2, 1, 0, 0, 0, .null, []),
  (25, .iload 5, 2, 0, 0, 0, .null, []),
  (27, .istore_n 3, 1, 0, 0, 0, .null, []),
  (28, .iinc 4 1, 3, 0, 0, 0, .int 1, []),
  (31, .goto (-24), 3, 7, 0, 0, .null, []),
  (34, .iload_n 2, 1, 0, 0, 0, .null, []),
  (35, .ireturn, 1, 0, 0, 0, .null, [])]
def am_c_MD_in : List am_E := [(0, .lload_n 0, 1, 0, 0, 0, .null, []),
  (1, .lload_n 2, 1, 0, 0, 0, .null, []),
  (2, .lcmp, 1, 0, 0, 0, .null, []),
  (3, .ifCond .lt 14, 3, 17, 0, 0, .null, []),
  (6, .lload_n 0, 1, 0, 0, 0, .null, []),
  (7, .lload 4, 2, 0, 0, 0, .null, []),
  (9, .lcmp, 1, 0, 0, 0, .null, []),
  (10, .ifCond .gt 7, 3, 17, 0, 0, .null, []),
  (13, .iconst 1, 1, 0, 0, 0, .int 1, []),
  (14, .goto 4, 3, 18, 0, 0, .null, []),
  (17, .iconst 0, 1, 0, 0, 0, .int 0, []),
  (18, .ireturn, 1, 0, 0, 0, .null, [])]
def am_c_MD_init_1 : List am_E := [(102, .aload_n 0, 1, 0, 0, 0, .null, []),
  (103, .bipush 116, 2, 0, 0, 0, .int 116, []),
  (105, .newarray .int, 2, 14, 0, 0, .null, []),
  (107, .putfield 46, 3, 11, 20, 2, .null, []),
  (110, .aload_n 0, 1, 0, 0, 0, .null, []),
  (111, .sipush 696, 3, 0, 0, 0, .int 696, []),
  (114, .newarray .int, 2, 14, 0, 0, .null, []),
  (116, .putfield 49, 3, 11, 21, 2, .null, []),
  (119, .aload_n 0, 1, 0, 0, 0, .null, []),
  (120, .iconst (-1), 1, 0, 0, 0, .int (-1), []),
  (121, .putfield 52, 3, 11, 22, 0, .null, []),
  (124, .aload_n 0, 1, 0, 0, 0, .null, []),
  (125, .iconst 4, 1, 0, 0, 0, .int 4, []),
  (126, .newarray .int, 2, 14, 0, 0, .null, []),
  (128, .putfield 56, 3, 11, 23, 2, .null, []),
  (131, .aload_n 0, 1, 0, 0, 0, .null, []),
  (132, .iconst 4, 1, 0, 0, 0, .int 4, []),
  (133, .newarray .int, 2, 14, 0, 0, .null, []),
  (135, .putfield 59, 3, 11, 24, 2, .null, []),
  (138, .aload_n 0, 1, 0, 0, 0, .null, []),
  (139, .bipush 96, 2, 0, 0, 0, .int 96, []),
  (141, .newarray .long, 2, 15, 0, 0, .null, []),
  (143, .putfield 62, 3, 11, 25, 2, .null, []),
  (146, .aload_n 0, 1, 0, 0, 0, .null, []),
  (147, .bipush 24, 2, 0, 0, 0, .int 24, []),
  (149, .newarray .long, 2, 15, 0, 0, .null, []),
  (151, .putfield 66, 3, 11, 26, 2, .null, []),
  (154, .aload_n 0, 1, 0, 0, 0, .null, []),
  (155, .getfield 7, 3, 11, 0, 2, .null, []),
  (158, .iconst 0, 1, 0, 0, 0, .int 0, []),
  (159, .iconst 3, 1, 0, 0, 0, .int 3, []),
  (160, .iastore, 1, 0, 0, 0, .null, []),
  (161, .aload_n 0, 1, 0, 0, 0, .null, []),
  (162, .getfield 7, 3, 11, 0, 2, .null, []),
  (165, .iconst 2, 1, 0, 0, 0, .int 2, []),
  (166, .iconst 1, 1, 0, 0, 0, .int 1, []),
  (167, .iastore, 1, 0, 0, 0, .null, []),
  (168, .iconst 0, 1, 0, 0, 0, .int 0, []),
  (169, .istore_n 1, 1, 0, 0, 0, .null, []),
  (170, .iload_n 1, 1, 0, 0, 0, .null, [(0, 0)]),
  (171, .iconst 4, 1, 0, 0, 0, .int 4, []),
  (172, .if_icmp .ge 16, 3, 188, 0, 0, .null, []),
  (175, .aload_n 0, 1, 0, 0, 0, .null, []),
  (176, .getfield 56, 3, 11, 23, 2, .null, []),
  (179, .iload_n 1, 1, 0, 0, 0, .null, []),
  (180, .iconst (-1), 1, 0, 0, 0, .int (-1), []),
  (181, .iastore, 1, 0, 0, 0, .null, []),
  (182, .iinc 1 1, 3, 0, 0, 0, .int 1, []),
  (185, .goto (-15), 3, 170, 0, 0, .null, []),
  (188, .return_, 1, 0, 0, 0, .null, [])]
def am_c_MD_init : List am_E := (0, .aload_n 0, 1, 0, 0, 0, .null, []) ::
  (1, .invokespecial 1, 3, 0, 0, 1, .null, []) ::
  (4, .aload_n 0, 1, 0, 0, 0, .null, []) ::
  (5, .bipush 116, 2, 0, 0, 0, .int 116, []) ::
  (7, .newarray .int, 2, 14, 0, 0, .null, []) ::
  (9, .putfield 7, 3, 11, 0, 2, .null, []) ::
  (12, .aload_n 0, 1, 0, 0, 0, .null, []) ::
  (13, .bipush 56, 2, 0, 0, 0, .int 56, []) ::
  (15, .newarray .int, 2, 14, 0, 0, .null, []) ::
  (17, .putfield 13, 3, 11, 3, 2, .null, []) ::
  (20, .aload_n 0, 1, 0, 0, 0, .null, []) ::
  (21, .bipush 7, 2, 0, 0, 0, .int 7, []) ::
  (23, .newarray .int, 2, 14, 0, 0, .null, []) ::
  (25, .putfield 16, 3, 11, 4, 2, .null, []) ::
  (28, .aload_n 0, 1, 0, 0, 0, .null, []) ::
  (29, .bipush 7, 2, 0, 0, 0, .int 7, []) ::
  (31, .newarray .int, 2, 14, 0, 0, .null, []) ::
  (33, .putfield 19, 3, 11, 5, 2, .null, []) ::
  (36, .aload_n 0, 1, 0, 0, 0, .null, []) ::
  (37, .bipush 7, 2, 0, 0, 0, .int 7, []) ::
  (39, .newarray .int, 2, 14, 0, 0, .null, []) ::
  (41, .putfield 22, 3, 11, 6, 2, .null, []) ::
  (44, .aload_n 0, 1, 0, 0, 0, .null, []) ::
  (45, .bipush 12, 2, 0, 0, 0, .int 12, []) ::
  (47, .newarray .int, 2, 14, 0, 0, .null, []) ::
  (49, .putfield 25, 3, 11, 7, 2, .null, []) ::
  (52, .aload_n 0, 1, 0, 0, 0, .null, []) ::
  (53, .sipush 2187, 3, 0, 0, 0, .int 2187, []) ::
  (56, .newarray .int, 2, 14, 0, 0, .null, []) ::
  (58, .putfield 28, 3, 11, 8, 2, .null, []) ::
  (61, .aload_n 0, 1, 0, 0, 0, .null, []) ::
  (62, .sipush 2187, 3, 0, 0, 0, .int 2187, []) ::
  (65, .newarray .int, 2, 14, 0, 0, .null, []) ::
  (67, .putfield 31, 3, 11, 9, 2, .null, []) ::
  (70, .aload_n 0, 1, 0, 0, 0, .null, []) ::
  (71, .bipush 90, 2, 0, 0, 0, .int 90, []) ::
  (73, .newarray .int, 2, 14, 0, 0, .null, []) ::
  (75, .putfield 34, 3, 11, 10, 2, .null, []) ::
  (78, .aload_n 0, 1, 0, 0, 0, .null, []) ::
  (79, .bipush 12, 2, 0, 0, 0, .int 12, []) ::
  (81, .newarray .int, 2, 14, 0, 0, .null, []) ::
  (83, .putfield 37, 3, 11, 15, 2, .null, []) ::
  (86, .aload_n 0, 1, 0, 0, 0, .null, []) ::
  (87, .iconst 3, 1, 0, 0, 0, .int 3, []) ::
  (88, .newarray .int, 2, 14, 0, 0, .null, []) ::
  (90, .putfield 40, 3, 11, 17, 2, .null, []) ::
  (93, .aload_n 0, 1, 0, 0, 0, .null, []) ::
  (94, .sipush 696, 3, 0, 0, 0, .int 696, []) ::
  (97, .newarray .int, 2, 14, 0, 0, .null, []) ::
  (99, .putfield 43, 3, 11, 18, 2, .null, []) :: am_c_MD_init_1
def am_c_MD_has : List am_E := [(0, .iload_n 0, 1, 0, 0, 0, .null, []),
  (1, .iload_n 1, 1, 0, 0, 0, .null, []),
  (2, .ishr, 1, 0, 0, 0, .null, []),
  (3, .iconst 1, 1, 0, 0, 0, .int 1, []),
  (4, .iand, 1, 0, 0, 0, .null, []),
  (5, .iconst 1, 1, 0, 0, 0, .int 1, []),
  (6, .if_icmp .ne 7, 3, 13, 0, 0, .null, []),
  (9, .iconst 1, 1, 0, 0, 0, .int 1, []),
  (10, .goto 4, 3, 14, 0, 0, .null, []),
  (13, .iconst 0, 1, 0, 0, 0, .int 0, []),
  (14, .ireturn, 1, 0, 0, 0, .null, [])]
def am_c_MD_bits : List am_E := [(0, .iconst 0, 1, 0, 0, 0, .int 0, []),
  (1, .istore_n 1, 1, 0, 0, 0, .null, []),
  (2, .iload_n 0, 1, 0, 0, 0, .null, []),
  (3, .istore_n 2, 1, 0, 0, 0, .null, []),
  (4, .iload_n 2, 1, 0, 0, 0, .null, [(0, 0)]),
  (5, .ifCond .eq 15, 3, 20, 0, 0, .null, []),
  (8, .iinc 1 1, 3, 0, 0, 0, .int 1, []),
  (11, .iload_n 2, 1, 0, 0, 0, .null, []),
  (12, .iload_n 2, 1, 0, 0, 0, .null, []),
  (13, .iconst 1, 1, 0, 0, 0, .int 1, []),
  (14, .isub, 1, 0, 0, 0, .null, []),
  (15, .iand, 1, 0, 0, 0, .null, []),
  (16, .istore_n 2, 1, 0, 0, 0, .null, []),
  (17, .goto (-13), 3, 4, 0, 0, .null, []),
  (20, .iload_n 1, 1, 0, 0, 0, .null, []),
  (21, .ireturn, 1, 0, 0, 0, .null, [])]
def am_c_MD_all : List am_E := [(0, .iconst 1, 1, 0, 0, 0, .int 1, []),
  (1, .aload_n 0, 1, 0, 0, 0, .null, []),
  (2, .getfield 7, 3, 11, 0, 2, .null, []),
  (5, .iconst 0, 1, 0, 0, 0, .int 0, []),
  (6, .iaload, 1, 0, 0, 0, .null, []),
  (7, .ishl, 1, 0, 0, 0, .null, []),
  (8, .iconst 1, 1, 0, 0, 0, .int 1, []),
  (9, .isub, 1, 0, 0, 0, .null, []),
  (10, .ireturn, 1, 0, 0, 0, .null, [])]
def am_c_MD_at : List am_E := [(0, .aload_n 0, 1, 0, 0, 0, .null, []),
  (1, .getfield 7, 3, 11, 0, 2, .null, []),
  (4, .iconst 4, 1, 0, 0, 0, .int 4, []),
  (5, .iload_n 1, 1, 0, 0, 0, .null, []),
  (6, .iadd, 1, 0, 0, 0, .null, []),
  (7, .iaload, 1, 0, 0, 0, .null, []),
  (8, .ireturn, 1, 0, 0, 0, .null, [])]
def am_c_MD_find : List am_E := [(0, .bipush (-4), 2, 0, 0, 0, .int (-4), []),
  (2, .istore_n 2, 1, 0, 0, 0, .null, []),
  (3, .iconst 0, 1, 0, 0, 0, .int 0, []),
  (4, .istore_n 3, 1, 0, 0, 0, .null, []),
  (5, .iload_n 3, 1, 0, 0, 0, .null, [(0, 0)]),
  (6, .aload_n 0, 1, 0, 0, 0, .null, []),
  (7, .getfield 7, 3, 11, 0, 2, .null, []),
  (10, .iconst 1, 1, 0, 0, 0, .int 1, []),
  (11, .iaload, 1, 0, 0, 0, .null, []),
  (12, .if_icmp .ge 24, 3, 36, 0, 0, .null, []),
  (15, .aload_n 0, 1, 0, 0, 0, .null, []),
  (16, .iload_n 3, 1, 0, 0, 0, .null, []),
  (17, .invokevirtual 69, 3, 136, 1, 13, .null, []),
  (20, .iload_n 1, 1, 0, 0, 0, .null, []),
  (21, .if_icmp .ne 7, 3, 28, 0, 0, .null, []),
  (24, .iload_n 3, 1, 0, 0, 0, .null, []),
  (25, .goto 4, 3, 29, 0, 0, .null, []),
  (28, .iload_n 2, 1, 0, 0, 0, .null, []),
  (29, .istore_n 2, 1, 0, 0, 0, .null, []),
  (30, .iinc 3 1, 3, 0, 0, 0, .int 1, []),
  (33, .goto (-28), 3, 5, 0, 0, .null, []),
  (36, .iload_n 2, 1, 0, 0, 0, .null, []),
  (37, .ireturn, 1, 0, 0, 0, .null, [])]
def am_c_MD_holds : List am_E := [(0, .iconst 0, 1, 0, 0, 0, .int 0, []),
  (1, .istore_n 2, 1, 0, 0, 0, .null, []),
  (2, .iconst 0, 1, 0, 0, 0, .int 0, []),
  (3, .istore_n 3, 1, 0, 0, 0, .null, []),
  (4, .iload_n 3, 1, 0, 0, 0, .null, [(0, 0)]),
  (5, .aload_n 0, 1, 0, 0, 0, .null, []),
  (6, .getfield 7, 3, 11, 0, 2, .null, []),
  (9, .iconst 1, 1, 0, 0, 0, .int 1, []),
  (10, .iaload, 1, 0, 0, 0, .null, []),
  (11, .if_icmp .ge 31, 3, 42, 0, 0, .null, []),
  (14, .iload_n 2, 1, 0, 0, 0, .null, []),
  (15, .ifCond .ne 15, 3, 30, 0, 0, .null, []),
  (18, .aload_n 0, 1, 0, 0, 0, .null, []),
  (19, .iload_n 3, 1, 0, 0, 0, .null, []),
  (20, .invokevirtual 69, 3, 136, 1, 13, .null, []),
  (23, .iload_n 1, 1, 0, 0, 0, .null, []),
  (24, .iconst (-1), 1, 0, 0, 0, .int (-1), []),
  (25, .ixor, 1, 0, 0, 0, .null, []),
  (26, .iand, 1, 0, 0, 0, .null, []),
  (27, .ifCond .ne 7, 3, 34, 0, 0, .null, []),
  (30, .iconst 1, 1, 0, 0, 0, .int 1, []),
  (31, .goto 4, 3, 35, 0, 0, .null, []),
  (34, .iconst 0, 1, 0, 0, 0, .int 0, []),
  (35, .istore_n 2, 1, 0, 0, 0, .null, []),
  (36, .iinc 3 1, 3, 0, 0, 0, .int 1, []),
  (39, .goto (-35), 3, 4, 0, 0, .null, []),
  (42, .iload_n 2, 1, 0, 0, 0, .null, []),
  (43, .ireturn, 1, 0, 0, 0, .null, [])]
def am_c_MD_isMore : List am_E := [(0, .iconst 0, 1, 0, 0, 0, .int 0, []),
  (1, .istore_n 2, 1, 0, 0, 0, .null, []),
  (2, .iconst 0, 1, 0, 0, 0, .int 0, []),
  (3, .istore_n 3, 1, 0, 0, 0, .null, []),
  (4, .iload_n 3, 1, 0, 0, 0, .null, [(0, 0)]),
  (5, .aload_n 0, 1, 0, 0, 0, .null, []),
  (6, .getfield 7, 3, 11, 0, 2, .null, []),
  (9, .iconst 1, 1, 0, 0, 0, .int 1, []),
  (10, .iaload, 1, 0, 0, 0, .null, []),
  (11, .if_icmp .ge 40, 3, 51, 0, 0, .null, []),
  (14, .iload_n 2, 1, 0, 0, 0, .null, []),
  (15, .ifCond .ne 24, 3, 39, 0, 0, .null, []),
  (18, .iload_n 3, 1, 0, 0, 0, .null, []),
  (19, .iload_n 1, 1, 0, 0, 0, .null, []),
  (20, .if_icmp .eq 23, 3, 43, 0, 0, .null, []),
  (23, .aload_n 0, 1, 0, 0, 0, .null, []),
  (24, .iload_n 3, 1, 0, 0, 0, .null, []),
  (25, .invokevirtual 69, 3, 136, 1, 13, .null, []),
  (28, .aload_n 0, 1, 0, 0, 0, .null, []),
  (29, .iload_n 1, 1, 0, 0, 0, .null, []),
  (30, .invokevirtual 69, 3, 136, 1, 13, .null, []),
  (33, .iconst (-1), 1, 0, 0, 0, .int (-1), []),
  (34, .ixor, 1, 0, 0, 0, .null, []),
  (35, .iand, 1, 0, 0, 0, .null, []),
  (36, .ifCond .ne 7, 3, 43, 0, 0, .null, []),
  (39, .iconst 1, 1, 0, 0, 0, .int 1, []),
  (40, .goto 4, 3, 44, 0, 0, .null, []),
  (43, .iconst 0, 1, 0, 0, 0, .int 0, []),
  (44, .istore_n 2, 1, 0, 0, 0, .null, []),
  (45, .iinc 3 1, 3, 0, 0, 0, .int 1, []),
  (48, .goto (-44), 3, 4, 0, 0, .null, []),
  (51, .iload_n 2, 1, 0, 0, 0, .null, []),
  (52, .ireturn, 1, 0, 0, 0, .null, [])]
def am_c_MD_leastWith : List am_E := [(0, .bipush (-4), 2, 0, 0, 0, .int (-4), []),
  (2, .istore_n 2, 1, 0, 0, 0, .null, []),
  (3, .iconst 0, 1, 0, 0, 0, .int 0, []),
  (4, .istore_n 3, 1, 0, 0, 0, .null, []),
  (5, .iload_n 3, 1, 0, 0, 0, .null, [(0, 0)]),
  (6, .aload_n 0, 1, 0, 0, 0, .null, []),
  (7, .getfield 7, 3, 11, 0, 2, .null, []),
  (10, .iconst 1, 1, 0, 0, 0, .int 1, []),
  (11, .iaload, 1, 0, 0, 0, .null, []),
  (12, .if_icmp .ge 47, 3, 59, 0, 0, .null, []),
  (15, .aload_n 0, 1, 0, 0, 0, .null, []),
  (16, .iload_n 3, 1, 0, 0, 0, .null, []),
  (17, .invokevirtual 69, 3, 136, 1, 13, .null, []),
  (20, .aload_n 0, 1, 0, 0, 0, .null, []),
  (21, .iload_n 1, 1, 0, 0, 0, .null, []),
  (22, .invokevirtual 69, 3, 136, 1, 13, .null, []),
  (25, .iand, 1, 0, 0, 0, .null, []),
  (26, .invokestatic 73, 3, 134, 1, 0, .null, []),
  (29, .istore 4, 2, 0, 0, 0, .null, []),
  (31, .iload_n 3, 1, 0, 0, 0, .null, []),
  (32, .iload_n 1, 1, 0, 0, 0, .null, []),
  (33, .if_icmp .eq 18, 3, 51, 0, 0, .null, []),
  (36, .iload_n 2, 1, 0, 0, 0, .null, []),
  (37, .ifCond .lt 9, 3, 46, 0, 0, .null, []),
  (40, .iload 4, 2, 0, 0, 0, .null, []),
  (42, .iload_n 2, 1, 0, 0, 0, .null, []),
  (43, .if_icmp .ge 8, 3, 51, 0, 0, .null, []),
  (46, .iload 4, 2, 0, 0, 0, .null, []),
  (48, .goto 4, 3, 52, 0, 0, .null, []),
  (51, .iload_n 2, 1, 0, 0, 0, .null, []),
  (52, .istore_n 2, 1, 0, 0, 0, .null, []),
  (53, .iinc 3 1, 3, 0, 0, 0, .int 1, []),
  (56, .goto (-51), 3, 5, 0, 0, .null, []),
  (59, .iload_n 2, 1, 0, 0, 0, .null, []),
  (60, .ireturn, 1, 0, 0, 0, .null, [])]
def am_c_MD_group : List am_E := [(0, .iload_n 1, 1, 0, 0, 0, .null, []),
  (1, .i2l, 1, 0, 0, 0, .null, []),
  (2, .lconst 0, 1, 0, 0, 0, .long 0, []),
  (3, .aload_n 0, 1, 0, 0, 0, .null, []),
  (4, .getfield 7, 3, 11, 0, 2, .null, []),
  (7, .iconst 1, 1, 0, 0, 0, .int 1, []),
  (8, .iaload, 1, 0, 0, 0, .null, []),
  (9, .iconst 1, 1, 0, 0, 0, .int 1, []),
  (10, .isub, 1, 0, 0, 0, .null, []),
  (11, .i2l, 1, 0, 0, 0, .null, []),
  (12, .invokestatic 76, 3, 131, 3, 0, .null, []),
  (15, .ifCond .ne 5, 3, 20, 0, 0, .null, []),
  (18, .iconst (-1), 1, 0, 0, 0, .int (-1), []),
  (19, .ireturn, 1, 0, 0, 0, .null, []),
  (20, .iload_n 2, 1, 0, 0, 0, .null, []),
  (21, .tableswitch 53 0 2 #[27, 33, 47], 27, 74, 0, 0, .null, [(0, 48), (1, 54), (2, 68)]),
  (48, .aload_n 0, 1, 0, 0, 0, .null, []),
  (49, .iload_n 1, 1, 0, 0, 0, .null, []),
  (50, .invokevirtual 69, 3, 136, 1, 13, .null, []),
  (53, .ireturn, 1, 0, 0, 0, .null, []),
  (54, .aload_n 0, 1, 0, 0, 0, .null, []),
  (55, .iload_n 1, 1, 0, 0, 0, .null, []),
  (56, .invokevirtual 80, 3, 139, 1, 13, .null, []),
  (59, .ifCond .eq 7, 3, 66, 0, 0, .null, []),
  (62, .iconst 1, 1, 0, 0, 0, .int 1, []),
  (63, .goto 4, 3, 67, 0, 0, .null, []),
  (66, .iconst 0, 1, 0, 0, 0, .int 0, []),
  (67, .ireturn, 1, 0, 0, 0, .null, []),
  (68, .aload_n 0, 1, 0, 0, 0, .null, []),
  (69, .iload_n 1, 1, 0, 0, 0, .null, []),
  (70, .invokevirtual 84, 3, 140, 1, 13, .null, []),
  (73, .ireturn, 1, 0, 0, 0, .null, []),
  (74, .iconst (-1), 1, 0, 0, 0, .int (-1), []),
  (75, .ireturn, 1, 0, 0, 0, .null, [])]
def am_c_MD_turns : List am_E := [(0, .iconst 0, 1, 0, 0, 0, .int 0, []),
  (1, .istore_n 2, 1, 0, 0, 0, .null, []),
  (2, .iconst 0, 1, 0, 0, 0, .int 0, []),
  (3, .istore_n 3, 1, 0, 0, 0, .null, []),
  (4, .iload_n 3, 1, 0, 0, 0, .null, [(0, 0)]),
  (5, .aload_n 0, 1, 0, 0, 0, .null, []),
  (6, .invokevirtual 87, 3, 135, 0, 13, .null, []),
  (9, .if_icmp .gt 45, 3, 54, 0, 0, .null, []),
  (12, .iload_n 2, 1, 0, 0, 0, .null, []),
  (13, .iload_n 3, 1, 0, 0, 0, .null, []),
  (14, .iload_n 1, 1, 0, 0, 0, .null, []),
  (15, .invokestatic 91, 3, 133, 2, 0, .null, []),
  (18, .ifCond .ne 27, 3, 45, 0, 0, .null, []),
  (21, .aload_n 0, 1, 0, 0, 0, .null, []),
  (22, .iload_n 3, 1, 0, 0, 0, .null, []),
  (23, .invokevirtual 95, 3, 138, 1, 13, .null, []),
  (26, .ifCond .ne 19, 3, 45, 0, 0, .null, []),
  (29, .aload_n 0, 1, 0, 0, 0, .null, []),
  (30, .iload_n 3, 1, 0, 0, 0, .null, []),
  (31, .iconst 1, 1, 0, 0, 0, .int 1, []),
  (32, .iload_n 1, 1, 0, 0, 0, .null, []),
  (33, .ishl, 1, 0, 0, 0, .null, []),
  (34, .ior, 1, 0, 0, 0, .null, []),
  (35, .invokevirtual 95, 3, 138, 1, 13, .null, []),
  (38, .ifCond .eq 7, 3, 45, 0, 0, .null, []),
  (41, .iconst 1, 1, 0, 0, 0, .int 1, []),
  (42, .goto 4, 3, 46, 0, 0, .null, []),
  (45, .iconst 0, 1, 0, 0, 0, .int 0, []),
  (46, .iadd, 1, 0, 0, 0, .null, []),
  (47, .istore_n 2, 1, 0, 0, 0, .null, []),
  (48, .iinc 3 1, 3, 0, 0, 0, .int 1, []),
  (51, .goto (-47), 3, 4, 0, 0, .null, []),
  (54, .iload_n 2, 1, 0, 0, 0, .null, []),
  (55, .ireturn, 1, 0, 0, 0, .null, [])]
def am_c_MD_element_1 : List am_E := [(104, .ireturn, 1, 0, 0, 0, .null, []),
  (105, .iconst (-1), 1, 0, 0, 0, .int (-1), []),
  (106, .ireturn, 1, 0, 0, 0, .null, [])]
def am_c_MD_element : List am_E := (0, .iload_n 1, 1, 0, 0, 0, .null, []) ::
  (1, .i2l, 1, 0, 0, 0, .null, []) ::
  (2, .lconst 0, 1, 0, 0, 0, .long 0, []) ::
  (3, .aload_n 0, 1, 0, 0, 0, .null, []) ::
  (4, .getfield 7, 3, 11, 0, 2, .null, []) ::
  (7, .iconst 0, 1, 0, 0, 0, .int 0, []) ::
  (8, .iaload, 1, 0, 0, 0, .null, []) ::
  (9, .iconst 1, 1, 0, 0, 0, .int 1, []) ::
  (10, .isub, 1, 0, 0, 0, .null, []) ::
  (11, .i2l, 1, 0, 0, 0, .null, []) ::
  (12, .invokestatic 76, 3, 131, 3, 0, .null, []) ::
  (15, .ifCond .ne 5, 3, 20, 0, 0, .null, []) ::
  (18, .iconst (-1), 1, 0, 0, 0, .int (-1), []) ::
  (19, .ireturn, 1, 0, 0, 0, .null, []) ::
  (20, .iconst 0, 1, 0, 0, 0, .int 0, []) ::
  (21, .istore_n 3, 1, 0, 0, 0, .null, []) ::
  (22, .iconst 0, 1, 0, 0, 0, .int 0, []) ::
  (23, .istore 4, 2, 0, 0, 0, .null, []) ::
  (25, .iload 4, 2, 0, 0, 0, .null, [(0, 0)]) ::
  (27, .aload_n 0, 1, 0, 0, 0, .null, []) ::
  (28, .getfield 7, 3, 11, 0, 2, .null, []) ::
  (31, .iconst 1, 1, 0, 0, 0, .int 1, []) ::
  (32, .iaload, 1, 0, 0, 0, .null, []) ::
  (33, .if_icmp .ge 33, 3, 66, 0, 0, .null, []) ::
  (36, .iload_n 3, 1, 0, 0, 0, .null, []) ::
  (37, .aload_n 0, 1, 0, 0, 0, .null, []) ::
  (38, .iload 4, 2, 0, 0, 0, .null, []) ::
  (40, .invokevirtual 69, 3, 136, 1, 13, .null, []) ::
  (43, .iload_n 1, 1, 0, 0, 0, .null, []) ::
  (44, .invokestatic 91, 3, 133, 2, 0, .null, []) ::
  (47, .ifCond .eq 10, 3, 57, 0, 0, .null, []) ::
  (50, .iconst 1, 1, 0, 0, 0, .int 1, []) ::
  (51, .iload 4, 2, 0, 0, 0, .null, []) ::
  (53, .ishl, 1, 0, 0, 0, .null, []) ::
  (54, .goto 4, 3, 58, 0, 0, .null, []) ::
  (57, .iconst 0, 1, 0, 0, 0, .int 0, []) ::
  (58, .ior, 1, 0, 0, 0, .null, []) ::
  (59, .istore_n 3, 1, 0, 0, 0, .null, []) ::
  (60, .iinc 4 1, 3, 0, 0, 0, .int 1, []) ::
  (63, .goto (-38), 3, 25, 0, 0, .null, []) ::
  (66, .iload_n 2, 1, 0, 0, 0, .null, []) ::
  (67, .tableswitch 38 0 2 #[25, 30, 32], 25, 105, 0, 0, .null, [(0, 92), (1, 97), (2, 99)]) ::
  (92, .iload_n 3, 1, 0, 0, 0, .null, []) ::
  (93, .invokestatic 73, 3, 134, 1, 0, .null, []) ::
  (96, .ireturn, 1, 0, 0, 0, .null, []) ::
  (97, .iload_n 3, 1, 0, 0, 0, .null, []) ::
  (98, .ireturn, 1, 0, 0, 0, .null, []) ::
  (99, .aload_n 0, 1, 0, 0, 0, .null, []) ::
  (100, .iload_n 1, 1, 0, 0, 0, .null, []) ::
  (101, .invokevirtual 98, 3, 142, 1, 13, .null, []) :: am_c_MD_element_1
def am_c_MD_common : List am_E := [(0, .bipush (-4), 2, 0, 0, 0, .int (-4), []),
  (2, .istore_n 1, 1, 0, 0, 0, .null, []),
  (3, .iconst 0, 1, 0, 0, 0, .int 0, []),
  (4, .istore_n 2, 1, 0, 0, 0, .null, []),
  (5, .iload_n 2, 1, 0, 0, 0, .null, [(0, 0)]),
  (6, .aload_n 0, 1, 0, 0, 0, .null, []),
  (7, .getfield 7, 3, 11, 0, 2, .null, []),
  (10, .iconst 1, 1, 0, 0, 0, .int 1, []),
  (11, .iaload, 1, 0, 0, 0, .null, []),
  (12, .if_icmp .ge 55, 3, 67, 0, 0, .null, []),
  (15, .iconst 0, 1, 0, 0, 0, .int 0, []),
  (16, .istore_n 3, 1, 0, 0, 0, .null, []),
  (17, .iload_n 3, 1, 0, 0, 0, .null, [(0, 0)]),
  (18, .iload_n 2, 1, 0, 0, 0, .null, []),
  (19, .if_icmp .gt 42, 3, 61, 0, 0, .null, []),
  (22, .aload_n 0, 1, 0, 0, 0, .null, []),
  (23, .iload_n 3, 1, 0, 0, 0, .null, []),
  (24, .invokevirtual 69, 3, 136, 1, 13, .null, []),
  (27, .aload_n 0, 1, 0, 0, 0, .null, []),
  (28, .iload_n 2, 1, 0, 0, 0, .null, []),
  (29, .invokevirtual 69, 3, 136, 1, 13, .null, []),
  (32, .iand, 1, 0, 0, 0, .null, []),
  (33, .invokestatic 73, 3, 134, 1, 0, .null, []),
  (36, .istore 4, 2, 0, 0, 0, .null, []),
  (38, .iload_n 1, 1, 0, 0, 0, .null, []),
  (39, .ifCond .lt 9, 3, 48, 0, 0, .null, []),
  (42, .iload 4, 2, 0, 0, 0, .null, []),
  (44, .iload_n 1, 1, 0, 0, 0, .null, []),
  (45, .if_icmp .ge 8, 3, 53, 0, 0, .null, []),
  (48, .iload 4, 2, 0, 0, 0, .null, []),
  (50, .goto 4, 3, 54, 0, 0, .null, []),
  (53, .iload_n 1, 1, 0, 0, 0, .null, []),
  (54, .istore_n 1, 1, 0, 0, 0, .null, []),
  (55, .iinc 3 1, 3, 0, 0, 0, .int 1, []),
  (58, .goto (-41), 3, 17, 0, 0, .null, []),
  (61, .iinc 2 1, 3, 0, 0, 0, .int 1, []),
  (64, .goto (-59), 3, 5, 0, 0, .null, []),
  (67, .iload_n 1, 1, 0, 0, 0, .null, []),
  (68, .ireturn, 1, 0, 0, 0, .null, [])]
def am_c_MD_faults : List am_E := [(0, .aload_n 0, 1, 0, 0, 0, .null, []),
  (1, .getfield 7, 3, 11, 0, 2, .null, []),
  (4, .iconst 0, 1, 0, 0, 0, .int 0, []),
  (5, .iaload, 1, 0, 0, 0, .null, []),
  (6, .iconst 1, 1, 0, 0, 0, .int 1, []),
  (7, .iadd, 1, 0, 0, 0, .null, []),
  (8, .istore_n 1, 1, 0, 0, 0, .null, []),
  (9, .iconst 0, 1, 0, 0, 0, .int 0, []),
  (10, .istore_n 2, 1, 0, 0, 0, .null, []),
  (11, .iload_n 2, 1, 0, 0, 0, .null, [(0, 0)]),
  (12, .aload_n 0, 1, 0, 0, 0, .null, []),
  (13, .invokevirtual 87, 3, 135, 0, 13, .null, []),
  (16, .if_icmp .gt 41, 3, 57, 0, 0, .null, []),
  (19, .aload_n 0, 1, 0, 0, 0, .null, []),
  (20, .aload_n 0, 1, 0, 0, 0, .null, []),
  (21, .invokevirtual 87, 3, 135, 0, 13, .null, []),
  (24, .iload_n 2, 1, 0, 0, 0, .null, []),
  (25, .iconst (-1), 1, 0, 0, 0, .int (-1), []),
  (26, .ixor, 1, 0, 0, 0, .null, []),
  (27, .iand, 1, 0, 0, 0, .null, []),
  (28, .invokevirtual 95, 3, 138, 1, 13, .null, []),
  (31, .ifCond .ne 18, 3, 49, 0, 0, .null, []),
  (34, .iload_n 2, 1, 0, 0, 0, .null, []),
  (35, .invokestatic 73, 3, 134, 1, 0, .null, []),
  (38, .iload_n 1, 1, 0, 0, 0, .null, []),
  (39, .if_icmp .ge 10, 3, 49, 0, 0, .null, []),
  (42, .iload_n 2, 1, 0, 0, 0, .null, []),
  (43, .invokestatic 73, 3, 134, 1, 0, .null, []),
  (46, .goto 4, 3, 50, 0, 0, .null, []),
  (49, .iload_n 1, 1, 0, 0, 0, .null, []),
  (50, .istore_n 1, 1, 0, 0, 0, .null, []),
  (51, .iinc 2 1, 3, 0, 0, 0, .int 1, []),
  (54, .goto (-43), 3, 11, 0, 0, .null, []),
  (57, .iload_n 1, 1, 0, 0, 0, .null, []),
  (58, .iconst 1, 1, 0, 0, 0, .int 1, []),
  (59, .isub, 1, 0, 0, 0, .null, []),
  (60, .ireturn, 1, 0, 0, 0, .null, [])]
def am_c_MD_liars : List am_E := [(0, .bipush (-4), 2, 0, 0, 0, .int (-4), []),
  (2, .istore_n 2, 1, 0, 0, 0, .null, []),
  (3, .iconst 0, 1, 0, 0, 0, .int 0, []),
  (4, .istore_n 3, 1, 0, 0, 0, .null, []),
  (5, .iload_n 3, 1, 0, 0, 0, .null, [(0, 0)]),
  (6, .aload_n 0, 1, 0, 0, 0, .null, []),
  (7, .invokevirtual 101, 3, 145, 0, 13, .null, []),
  (10, .if_icmp .gt 34, 3, 44, 0, 0, .null, []),
  (13, .aload_n 0, 1, 0, 0, 0, .null, []),
  (14, .invokevirtual 104, 3, 144, 0, 13, .null, []),
  (17, .ifCond .le 27, 3, 44, 0, 0, .null, []),
  (20, .iload_n 1, 1, 0, 0, 0, .null, []),
  (21, .iload_n 3, 1, 0, 0, 0, .null, []),
  (22, .imul, 1, 0, 0, 0, .null, []),
  (23, .iconst 1, 1, 0, 0, 0, .int 1, []),
  (24, .iadd, 1, 0, 0, 0, .null, []),
  (25, .aload_n 0, 1, 0, 0, 0, .null, []),
  (26, .invokevirtual 104, 3, 144, 0, 13, .null, []),
  (29, .if_icmp .gt 7, 3, 36, 0, 0, .null, []),
  (32, .iload_n 3, 1, 0, 0, 0, .null, []),
  (33, .goto 4, 3, 37, 0, 0, .null, []),
  (36, .iload_n 2, 1, 0, 0, 0, .null, []),
  (37, .istore_n 2, 1, 0, 0, 0, .null, []),
  (38, .iinc 3 1, 3, 0, 0, 0, .int 1, []),
  (41, .goto (-36), 3, 5, 0, 0, .null, []),
  (44, .iload_n 2, 1, 0, 0, 0, .null, []),
  (45, .ireturn, 1, 0, 0, 0, .null, [])]
def am_c_MD_count : List am_E := [(0, .iload_n 1, 1, 0, 0, 0, .null, []),
  (1, .tableswitch 126 0 8 #[51, 58, 65, 70, 83, 102, 108, 114, 121], 51, 127, 0, 0, .null, [(0, 52), (1, 59), (2, 66), (3, 71), (4, 84), (5, 103), (6, 109), (7, 115), (8, 122)]),
  (52, .aload_n 0, 1, 0, 0, 0, .null, []),
  (53, .getfield 7, 3, 11, 0, 2, .null, []),
  (56, .iconst 0, 1, 0, 0, 0, .int 0, []),
  (57, .iaload, 1, 0, 0, 0, .null, []),
  (58, .ireturn, 1, 0, 0, 0, .null, []),
  (59, .aload_n 0, 1, 0, 0, 0, .null, []),
  (60, .getfield 7, 3, 11, 0, 2, .null, []),
  (63, .iconst 1, 1, 0, 0, 0, .int 1, []),
  (64, .iaload, 1, 0, 0, 0, .null, []),
  (65, .ireturn, 1, 0, 0, 0, .null, []),
  (66, .aload_n 0, 1, 0, 0, 0, .null, []),
  (67, .invokevirtual 104, 3, 144, 0, 13, .null, []),
  (70, .ireturn, 1, 0, 0, 0, .null, []),
  (71, .aload_n 0, 1, 0, 0, 0, .null, []),
  (72, .invokevirtual 104, 3, 144, 0, 13, .null, []),
  (75, .ifCond .ne 7, 3, 82, 0, 0, .null, []),
  (78, .iconst 0, 1, 0, 0, 0, .int 0, []),
  (79, .goto 4, 3, 83, 0, 0, .null, []),
  (82, .iconst 1, 1, 0, 0, 0, .int 1, []),
  (83, .ireturn, 1, 0, 0, 0, .null, []),
  (84, .aload_n 0, 1, 0, 0, 0, .null, []),
  (85, .getfield 7, 3, 11, 0, 2, .null, []),
  (88, .iconst 1, 1, 0, 0, 0, .int 1, []),
  (89, .iaload, 1, 0, 0, 0, .null, []),
  (90, .ifCond .ne 8, 3, 98, 0, 0, .null, []),
  (93, .bipush (-4), 2, 0, 0, 0, .int (-4), []),
  (95, .goto 7, 3, 102, 0, 0, .null, []),
  (98, .aload_n 0, 1, 0, 0, 0, .null, []),
  (99, .invokevirtual 101, 3, 145, 0, 13, .null, []),
  (102, .ireturn, 1, 0, 0, 0, .null, []),
  (103, .aload_n 0, 1, 0, 0, 0, .null, []),
  (104, .iconst 2, 1, 0, 0, 0, .int 2, []),
  (105, .invokevirtual 107, 3, 146, 1, 13, .null, []),
  (108, .ireturn, 1, 0, 0, 0, .null, []),
  (109, .aload_n 0, 1, 0, 0, 0, .null, []),
  (110, .iconst 1, 1, 0, 0, 0, .int 1, []),
  (111, .invokevirtual 107, 3, 146, 1, 13, .null, []),
  (114, .ireturn, 1, 0, 0, 0, .null, []),
  (115, .aload_n 0, 1, 0, 0, 0, .null, []),
  (116, .getfield 7, 3, 11, 0, 2, .null, []),
  (119, .iconst 3, 1, 0, 0, 0, .int 3, []),
  (120, .iaload, 1, 0, 0, 0, .null, []),
  (121, .ireturn, 1, 0, 0, 0, .null, []),
  (122, .aload_n 0, 1, 0, 0, 0, .null, []),
  (123, .getfield 110, 3, 11, 19, 0, .null, []),
  (126, .ireturn, 1, 0, 0, 0, .null, []),
  (127, .iconst (-1), 1, 0, 0, 0, .int (-1), []),
  (128, .ireturn, 1, 0, 0, 0, .null, [])]
def am_c_MD_reduces : List am_E := [(0, .iload_n 1, 1, 0, 0, 0, .null, []),
  (1, .istore_n 3, 1, 0, 0, 0, .null, []),
  (2, .iload_n 2, 1, 0, 0, 0, .null, []),
  (3, .istore 4, 2, 0, 0, 0, .null, []),
  (5, .iload 4, 2, 0, 0, 0, .null, [(0, 0)]),
  (7, .ifCond .eq 19, 3, 26, 0, 0, .null, []),
  (10, .iload_n 3, 1, 0, 0, 0, .null, []),
  (11, .iload 4, 2, 0, 0, 0, .null, []),
  (13, .irem, 1, 0, 0, 0, .null, []),
  (14, .istore 5, 2, 0, 0, 0, .null, []),
  (16, .iload 4, 2, 0, 0, 0, .null, []),
  (18, .istore_n 3, 1, 0, 0, 0, .null, []),
  (19, .iload 5, 2, 0, 0, 0, .null, []),
  (21, .istore 4, 2, 0, 0, 0, .null, []),
  (23, .goto (-18), 3, 5, 0, 0, .null, []),
  (26, .aload_n 0, 1, 0, 0, 0, .null, []),
  (27, .iload_n 1, 1, 0, 0, 0, .null, []),
  (28, .iload_n 3, 1, 0, 0, 0, .null, []),
  (29, .idiv, 1, 0, 0, 0, .null, []),
  (30, .putfield 113, 3, 11, 1, 0, .null, []),
  (33, .aload_n 0, 1, 0, 0, 0, .null, []),
  (34, .iload_n 2, 1, 0, 0, 0, .null, []),
  (35, .iload_n 3, 1, 0, 0, 0, .null, []),
  (36, .idiv, 1, 0, 0, 0, .null, []),
  (37, .putfield 116, 3, 11, 2, 0, .null, []),
  (40, .return_, 1, 0, 0, 0, .null, [])]
def am_c_MD_nth : List am_E := [(0, .iload_n 1, 1, 0, 0, 0, .null, []),
  (1, .istore_n 2, 1, 0, 0, 0, .null, []),
  (2, .iconst 0, 1, 0, 0, 0, .int 0, []),
  (3, .istore_n 3, 1, 0, 0, 0, .null, []),
  (4, .iload_n 3, 1, 0, 0, 0, .null, [(0, 0)]),
  (5, .bipush 12, 2, 0, 0, 0, .int 12, []),
  (7, .if_icmp .ge 37, 3, 44, 0, 0, .null, []),
  (10, .iload_n 0, 1, 0, 0, 0, .null, []),
  (11, .iload_n 3, 1, 0, 0, 0, .null, []),
  (12, .invokestatic 91, 3, 133, 2, 0, .null, []),
  (15, .ifCond .eq 7, 3, 22, 0, 0, .null, []),
  (18, .iload_n 2, 1, 0, 0, 0, .null, []),
  (19, .ifCond .le 25, 3, 44, 0, 0, .null, []),
  (22, .iload_n 2, 1, 0, 0, 0, .null, []),
  (23, .iload_n 0, 1, 0, 0, 0, .null, []),
  (24, .iload_n 3, 1, 0, 0, 0, .null, []),
  (25, .invokestatic 91, 3, 133, 2, 0, .null, []),
  (28, .ifCond .eq 7, 3, 35, 0, 0, .null, []),
  (31, .iconst 1, 1, 0, 0, 0, .int 1, []),
  (32, .goto 4, 3, 36, 0, 0, .null, []),
  (35, .iconst 0, 1, 0, 0, 0, .int 0, []),
  (36, .isub, 1, 0, 0, 0, .null, []),
  (37, .istore_n 2, 1, 0, 0, 0, .null, []),
  (38, .iinc 3 1, 3, 0, 0, 0, .int 1, []),
  (41, .goto (-37), 3, 4, 0, 0, .null, []),
  (44, .iload_n 3, 1, 0, 0, 0, .null, []),
  (45, .ireturn, 1, 0, 0, 0, .null, [])]
def am_c_MD_squares_1 : List am_E := [(94, .aload_n 0, 1, 0, 0, 0, .null, []),
  (95, .getfield 13, 3, 11, 3, 2, .null, []),
  (98, .bipush 8, 2, 0, 0, 0, .int 8, []),
  (100, .iload_n 3, 1, 0, 0, 0, .null, []),
  (101, .imul, 1, 0, 0, 0, .null, []),
  (102, .bipush 7, 2, 0, 0, 0, .int 7, []),
  (104, .iadd, 1, 0, 0, 0, .null, []),
  (105, .iconst 1, 1, 0, 0, 0, .int 1, []),
  (106, .iastore, 1, 0, 0, 0, .null, []),
  (107, .iinc 3 1, 3, 0, 0, 0, .int 1, []),
  (110, .goto (-108), 3, 2, 0, 0, .null, []),
  (113, .return_, 1, 0, 0, 0, .null, [])]
def am_c_MD_squares : List am_E := (0, .iconst 0, 1, 0, 0, 0, .int 0, []) ::
  (1, .istore_n 3, 1, 0, 0, 0, .null, []) ::
  (2, .iload_n 3, 1, 0, 0, 0, .null, [(0, 0)]) ::
  (3, .iload_n 1, 1, 0, 0, 0, .null, []) ::
  (4, .if_icmp .ge 109, 3, 113, 0, 0, .null, []) ::
  (7, .iconst 0, 1, 0, 0, 0, .int 0, []) ::
  (8, .istore 4, 2, 0, 0, 0, .null, []) ::
  (10, .iload 4, 2, 0, 0, 0, .null, [(0, 0)]) ::
  (12, .bipush 7, 2, 0, 0, 0, .int 7, []) ::
  (14, .if_icmp .ge 80, 3, 94, 0, 0, .null, []) ::
  (17, .aload_n 0, 1, 0, 0, 0, .null, []) ::
  (18, .getfield 16, 3, 11, 4, 2, .null, []) ::
  (21, .iload_n 2, 1, 0, 0, 0, .null, []) ::
  (22, .ifCond .eq 8, 3, 30, 0, 0, .null, []) ::
  (25, .iload 4, 2, 0, 0, 0, .null, []) ::
  (27, .goto 4, 3, 31, 0, 0, .null, []) ::
  (30, .iload_n 3, 1, 0, 0, 0, .null, []) ::
  (31, .iaload, 1, 0, 0, 0, .null, []) ::
  (32, .istore 5, 2, 0, 0, 0, .null, []) ::
  (34, .aload_n 0, 1, 0, 0, 0, .null, []) ::
  (35, .getfield 19, 3, 11, 5, 2, .null, []) ::
  (38, .iload_n 2, 1, 0, 0, 0, .null, []) ::
  (39, .ifCond .eq 7, 3, 46, 0, 0, .null, []) ::
  (42, .iload_n 3, 1, 0, 0, 0, .null, []) ::
  (43, .goto 5, 3, 48, 0, 0, .null, []) ::
  (46, .iload 4, 2, 0, 0, 0, .null, []) ::
  (48, .iaload, 1, 0, 0, 0, .null, []) ::
  (49, .istore 6, 2, 0, 0, 0, .null, []) ::
  (51, .aload_n 0, 1, 0, 0, 0, .null, []) ::
  (52, .getfield 13, 3, 11, 3, 2, .null, []) ::
  (55, .bipush 8, 2, 0, 0, 0, .int 8, []) ::
  (57, .iload_n 3, 1, 0, 0, 0, .null, []) ::
  (58, .imul, 1, 0, 0, 0, .null, []) ::
  (59, .iload 4, 2, 0, 0, 0, .null, []) ::
  (61, .iadd, 1, 0, 0, 0, .null, []) ::
  (62, .iload 4, 2, 0, 0, 0, .null, []) ::
  (64, .iload_n 1, 1, 0, 0, 0, .null, []) ::
  (65, .if_icmp .ge 21, 3, 86, 0, 0, .null, []) ::
  (68, .aload_n 0, 1, 0, 0, 0, .null, []) ::
  (69, .iload 5, 2, 0, 0, 0, .null, []) ::
  (71, .invokevirtual 69, 3, 136, 1, 13, .null, []) ::
  (74, .iload 6, 2, 0, 0, 0, .null, []) ::
  (76, .invokestatic 91, 3, 133, 2, 0, .null, []) ::
  (79, .ifCond .eq 7, 3, 86, 0, 0, .null, []) ::
  (82, .iconst 1, 1, 0, 0, 0, .int 1, []) ::
  (83, .goto 4, 3, 87, 0, 0, .null, []) ::
  (86, .iconst 0, 1, 0, 0, 0, .int 0, []) ::
  (87, .iastore, 1, 0, 0, 0, .null, []) ::
  (88, .iinc 4 1, 3, 0, 0, 0, .int 1, []) ::
  (91, .goto (-81), 3, 10, 0, 0, .null, []) :: am_c_MD_squares_1
def am_c_MD_swaps : List am_E := [(0, .iconst 0, 1, 0, 0, 0, .int 0, []),
  (1, .istore_n 3, 1, 0, 0, 0, .null, []),
  (2, .iload_n 3, 1, 0, 0, 0, .null, [(0, 0)]),
  (3, .bipush 8, 2, 0, 0, 0, .int 8, []),
  (5, .if_icmp .ge 68, 3, 73, 0, 0, .null, []),
  (8, .aload_n 0, 1, 0, 0, 0, .null, []),
  (9, .getfield 13, 3, 11, 3, 2, .null, []),
  (12, .bipush 8, 2, 0, 0, 0, .int 8, []),
  (14, .iload_n 1, 1, 0, 0, 0, .null, []),
  (15, .imul, 1, 0, 0, 0, .null, []),
  (16, .iload_n 3, 1, 0, 0, 0, .null, []),
  (17, .iadd, 1, 0, 0, 0, .null, []),
  (18, .iaload, 1, 0, 0, 0, .null, []),
  (19, .istore 4, 2, 0, 0, 0, .null, []),
  (21, .aload_n 0, 1, 0, 0, 0, .null, []),
  (22, .getfield 13, 3, 11, 3, 2, .null, []),
  (25, .bipush 8, 2, 0, 0, 0, .int 8, []),
  (27, .iload_n 1, 1, 0, 0, 0, .null, []),
  (28, .imul, 1, 0, 0, 0, .null, []),
  (29, .iload_n 3, 1, 0, 0, 0, .null, []),
  (30, .iadd, 1, 0, 0, 0, .null, []),
  (31, .aload_n 0, 1, 0, 0, 0, .null, []),
  (32, .getfield 13, 3, 11, 3, 2, .null, []),
  (35, .bipush 8, 2, 0, 0, 0, .int 8, []),
  (37, .iload_n 2, 1, 0, 0, 0, .null, []),
  (38, .imul, 1, 0, 0, 0, .null, []),
  (39, .iload_n 3, 1, 0, 0, 0, .null, []),
  (40, .iadd, 1, 0, 0, 0, .null, []),
  (41, .iaload, 1, 0, 0, 0, .null, []),
  (42, .iastore, 1, 0, 0, 0, .null, []),
  (43, .aload_n 0, 1, 0, 0, 0, .null, []),
  (44, .getfield 13, 3, 11, 3, 2, .null, []),
  (47, .bipush 8, 2, 0, 0, 0, .int 8, []),
  (49, .iload_n 2, 1, 0, 0, 0, .null, []),
  (50, .imul, 1, 0, 0, 0, .null, []),
  (51, .iload_n 3, 1, 0, 0, 0, .null, []),
  (52, .iadd, 1, 0, 0, 0, .null, []),
  (53, .iload_n 1, 1, 0, 0, 0, .null, []),
  (54, .iload_n 2, 1, 0, 0, 0, .null, []),
  (55, .if_icmp .ne 8, 3, 63, 0, 0, .null, []),
  (58, .iload 4, 2, 0, 0, 0, .null, []),
  (60, .goto 6, 3, 66, 0, 0, .null, []),
  (63, .iload 4, 2, 0, 0, 0, .null, []),
  (65, .ineg, 1, 0, 0, 0, .null, []),
  (66, .iastore, 1, 0, 0, 0, .null, []),
  (67, .iinc 3 1, 3, 0, 0, 0, .int 1, []),
  (70, .goto (-68), 3, 2, 0, 0, .null, []),
  (73, .return_, 1, 0, 0, 0, .null, [])]
def am_c_MD_solves_2 : List am_E := [(168, .istore_n 2, 1, 0, 0, 0, .null, []),
  (169, .iinc 3 1, 3, 0, 0, 0, .int 1, []),
  (172, .goto (-168), 3, 4, 0, 0, .null, []),
  (175, .iload_n 2, 1, 0, 0, 0, .null, []),
  (176, .ireturn, 1, 0, 0, 0, .null, [])]
def am_c_MD_solves_1 : List am_E := (83, .iload 6, 2, 0, 0, 0, .null, []) ::
  (85, .imul, 1, 0, 0, 0, .null, []) ::
  (86, .iload_n 3, 1, 0, 0, 0, .null, []) ::
  (87, .iadd, 1, 0, 0, 0, .null, []) ::
  (88, .iaload, 1, 0, 0, 0, .null, []) ::
  (89, .istore 7, 2, 0, 0, 0, .null, []) ::
  (91, .iconst 0, 1, 0, 0, 0, .int 0, []) ::
  (92, .istore 8, 2, 0, 0, 0, .null, []) ::
  (94, .iload 8, 2, 0, 0, 0, .null, [(0, 0)]) ::
  (96, .bipush 8, 2, 0, 0, 0, .int 8, []) ::
  (98, .if_icmp .ge 62, 3, 160, 0, 0, .null, []) ::
  (101, .iload 6, 2, 0, 0, 0, .null, []) ::
  (103, .iload_n 3, 1, 0, 0, 0, .null, []) ::
  (104, .if_icmp .eq 56, 3, 160, 0, 0, .null, []) ::
  (107, .aload_n 0, 1, 0, 0, 0, .null, []) ::
  (108, .getfield 13, 3, 11, 3, 2, .null, []) ::
  (111, .bipush 8, 2, 0, 0, 0, .int 8, []) ::
  (113, .iload 6, 2, 0, 0, 0, .null, []) ::
  (115, .imul, 1, 0, 0, 0, .null, []) ::
  (116, .iload 8, 2, 0, 0, 0, .null, []) ::
  (118, .iadd, 1, 0, 0, 0, .null, []) ::
  (119, .iload 5, 2, 0, 0, 0, .null, []) ::
  (121, .aload_n 0, 1, 0, 0, 0, .null, []) ::
  (122, .getfield 13, 3, 11, 3, 2, .null, []) ::
  (125, .bipush 8, 2, 0, 0, 0, .int 8, []) ::
  (127, .iload 6, 2, 0, 0, 0, .null, []) ::
  (129, .imul, 1, 0, 0, 0, .null, []) ::
  (130, .iload 8, 2, 0, 0, 0, .null, []) ::
  (132, .iadd, 1, 0, 0, 0, .null, []) ::
  (133, .iaload, 1, 0, 0, 0, .null, []) ::
  (134, .imul, 1, 0, 0, 0, .null, []) ::
  (135, .iload 7, 2, 0, 0, 0, .null, []) ::
  (137, .aload_n 0, 1, 0, 0, 0, .null, []) ::
  (138, .getfield 13, 3, 11, 3, 2, .null, []) ::
  (141, .bipush 8, 2, 0, 0, 0, .int 8, []) ::
  (143, .iload_n 3, 1, 0, 0, 0, .null, []) ::
  (144, .imul, 1, 0, 0, 0, .null, []) ::
  (145, .iload 8, 2, 0, 0, 0, .null, []) ::
  (147, .iadd, 1, 0, 0, 0, .null, []) ::
  (148, .iaload, 1, 0, 0, 0, .null, []) ::
  (149, .imul, 1, 0, 0, 0, .null, []) ::
  (150, .isub, 1, 0, 0, 0, .null, []) ::
  (151, .iload_n 2, 1, 0, 0, 0, .null, []) ::
  (152, .idiv, 1, 0, 0, 0, .null, []) ::
  (153, .iastore, 1, 0, 0, 0, .null, []) ::
  (154, .iinc 8 1, 3, 0, 0, 0, .int 1, []) ::
  (157, .goto (-63), 3, 94, 0, 0, .null, []) ::
  (160, .iinc 6 1, 3, 0, 0, 0, .int 1, []) ::
  (163, .goto (-92), 3, 71, 0, 0, .null, []) ::
  (166, .iload 5, 2, 0, 0, 0, .null, []) :: am_c_MD_solves_2
def am_c_MD_solves : List am_E := (0, .iconst 1, 1, 0, 0, 0, .int 1, []) ::
  (1, .istore_n 2, 1, 0, 0, 0, .null, []) ::
  (2, .iconst 0, 1, 0, 0, 0, .int 0, []) ::
  (3, .istore_n 3, 1, 0, 0, 0, .null, []) ::
  (4, .iload_n 3, 1, 0, 0, 0, .null, [(0, 0)]) ::
  (5, .iload_n 1, 1, 0, 0, 0, .null, []) ::
  (6, .if_icmp .ge 169, 3, 175, 0, 0, .null, []) ::
  (9, .iload_n 3, 1, 0, 0, 0, .null, []) ::
  (10, .istore 4, 2, 0, 0, 0, .null, []) ::
  (12, .iload 4, 2, 0, 0, 0, .null, [(0, 0)]) ::
  (14, .iload_n 1, 1, 0, 0, 0, .null, []) ::
  (15, .iconst 1, 1, 0, 0, 0, .int 1, []) ::
  (16, .isub, 1, 0, 0, 0, .null, []) ::
  (17, .if_icmp .ge 24, 3, 41, 0, 0, .null, []) ::
  (20, .aload_n 0, 1, 0, 0, 0, .null, []) ::
  (21, .getfield 13, 3, 11, 3, 2, .null, []) ::
  (24, .bipush 8, 2, 0, 0, 0, .int 8, []) ::
  (26, .iload 4, 2, 0, 0, 0, .null, []) ::
  (28, .imul, 1, 0, 0, 0, .null, []) ::
  (29, .iload_n 3, 1, 0, 0, 0, .null, []) ::
  (30, .iadd, 1, 0, 0, 0, .null, []) ::
  (31, .iaload, 1, 0, 0, 0, .null, []) ::
  (32, .ifCond .ne 9, 3, 41, 0, 0, .null, []) ::
  (35, .iinc 4 1, 3, 0, 0, 0, .int 1, []) ::
  (38, .goto (-26), 3, 12, 0, 0, .null, []) ::
  (41, .aload_n 0, 1, 0, 0, 0, .null, []) ::
  (42, .iload_n 3, 1, 0, 0, 0, .null, []) ::
  (43, .iload 4, 2, 0, 0, 0, .null, []) ::
  (45, .invokevirtual 119, 3, 151, 2, 13, .null, []) ::
  (48, .aload_n 0, 1, 0, 0, 0, .null, []) ::
  (49, .getfield 13, 3, 11, 3, 2, .null, []) ::
  (52, .bipush 8, 2, 0, 0, 0, .int 8, []) ::
  (54, .iload_n 3, 1, 0, 0, 0, .null, []) ::
  (55, .imul, 1, 0, 0, 0, .null, []) ::
  (56, .iload_n 3, 1, 0, 0, 0, .null, []) ::
  (57, .iadd, 1, 0, 0, 0, .null, []) ::
  (58, .iaload, 1, 0, 0, 0, .null, []) ::
  (59, .istore 5, 2, 0, 0, 0, .null, []) ::
  (61, .iload 5, 2, 0, 0, 0, .null, []) ::
  (63, .ifCond .ne 5, 3, 68, 0, 0, .null, []) ::
  (66, .iconst 0, 1, 0, 0, 0, .int 0, []) ::
  (67, .ireturn, 1, 0, 0, 0, .null, []) ::
  (68, .iconst 0, 1, 0, 0, 0, .int 0, []) ::
  (69, .istore 6, 2, 0, 0, 0, .null, []) ::
  (71, .iload 6, 2, 0, 0, 0, .null, [(0, 0)]) ::
  (73, .iload_n 1, 1, 0, 0, 0, .null, []) ::
  (74, .if_icmp .ge 92, 3, 166, 0, 0, .null, []) ::
  (77, .aload_n 0, 1, 0, 0, 0, .null, []) ::
  (78, .getfield 13, 3, 11, 3, 2, .null, []) ::
  (81, .bipush 8, 2, 0, 0, 0, .int 8, []) :: am_c_MD_solves_1
def am_c_MD_takes_1 : List am_E := [(91, .goto 17, 3, 108, 0, 0, .null, []),
  (94, .aload_n 0, 1, 0, 0, 0, .null, []),
  (95, .getfield 22, 3, 11, 6, 2, .null, []),
  (98, .aload_n 0, 1, 0, 0, 0, .null, []),
  (99, .getfield 19, 3, 11, 5, 2, .null, []),
  (102, .iload 5, 2, 0, 0, 0, .null, []),
  (104, .iaload, 1, 0, 0, 0, .null, []),
  (105, .iload 6, 2, 0, 0, 0, .null, []),
  (107, .iastore, 1, 0, 0, 0, .null, []),
  (108, .iinc 5 1, 3, 0, 0, 0, .int 1, []),
  (111, .goto (-97), 3, 14, 0, 0, .null, []),
  (114, .iload 4, 2, 0, 0, 0, .null, []),
  (116, .ireturn, 1, 0, 0, 0, .null, [])]
def am_c_MD_takes : List am_E := (0, .iload_n 2, 1, 0, 0, 0, .null, []) ::
  (1, .ifCond .eq 7, 3, 8, 0, 0, .null, []) ::
  (4, .iconst 1, 1, 0, 0, 0, .int 1, []) ::
  (5, .goto 4, 3, 9, 0, 0, .null, []) ::
  (8, .iconst 0, 1, 0, 0, 0, .int 0, []) ::
  (9, .istore 4, 2, 0, 0, 0, .null, []) ::
  (11, .iconst 0, 1, 0, 0, 0, .int 0, []) ::
  (12, .istore 5, 2, 0, 0, 0, .null, []) ::
  (14, .iload 5, 2, 0, 0, 0, .null, [(0, 0)]) ::
  (16, .iload_n 1, 1, 0, 0, 0, .null, []) ::
  (17, .if_icmp .ge 97, 3, 114, 0, 0, .null, []) ::
  (20, .iload 4, 2, 0, 0, 0, .null, []) ::
  (22, .ifCond .eq 92, 3, 114, 0, 0, .null, []) ::
  (25, .iload_n 2, 1, 0, 0, 0, .null, []) ::
  (26, .ifCond .ge 20, 3, 46, 0, 0, .null, []) ::
  (29, .aload_n 0, 1, 0, 0, 0, .null, []) ::
  (30, .getfield 13, 3, 11, 3, 2, .null, []) ::
  (33, .bipush 8, 2, 0, 0, 0, .int 8, []) ::
  (35, .iload 5, 2, 0, 0, 0, .null, []) ::
  (37, .imul, 1, 0, 0, 0, .null, []) ::
  (38, .bipush 7, 2, 0, 0, 0, .int 7, []) ::
  (40, .iadd, 1, 0, 0, 0, .null, []) ::
  (41, .iaload, 1, 0, 0, 0, .null, []) ::
  (42, .ineg, 1, 0, 0, 0, .null, []) ::
  (43, .goto 16, 3, 59, 0, 0, .null, []) ::
  (46, .aload_n 0, 1, 0, 0, 0, .null, []) ::
  (47, .getfield 13, 3, 11, 3, 2, .null, []) ::
  (50, .bipush 8, 2, 0, 0, 0, .int 8, []) ::
  (52, .iload 5, 2, 0, 0, 0, .null, []) ::
  (54, .imul, 1, 0, 0, 0, .null, []) ::
  (55, .bipush 7, 2, 0, 0, 0, .int 7, []) ::
  (57, .iadd, 1, 0, 0, 0, .null, []) ::
  (58, .iaload, 1, 0, 0, 0, .null, []) ::
  (59, .istore 6, 2, 0, 0, 0, .null, []) ::
  (61, .iload 6, 2, 0, 0, 0, .null, []) ::
  (63, .ifCond .lt 7, 3, 70, 0, 0, .null, []) ::
  (66, .iconst 1, 1, 0, 0, 0, .int 1, []) ::
  (67, .goto 4, 3, 71, 0, 0, .null, []) ::
  (70, .iconst 0, 1, 0, 0, 0, .int 0, []) ::
  (71, .istore 4, 2, 0, 0, 0, .null, []) ::
  (73, .iload_n 3, 1, 0, 0, 0, .null, []) ::
  (74, .ifCond .eq 20, 3, 94, 0, 0, .null, []) ::
  (77, .aload_n 0, 1, 0, 0, 0, .null, []) ::
  (78, .getfield 25, 3, 11, 7, 2, .null, []) ::
  (81, .aload_n 0, 1, 0, 0, 0, .null, []) ::
  (82, .getfield 16, 3, 11, 4, 2, .null, []) ::
  (85, .iload 5, 2, 0, 0, 0, .null, []) ::
  (87, .iaload, 1, 0, 0, 0, .null, []) ::
  (88, .iload 6, 2, 0, 0, 0, .null, []) ::
  (90, .iastore, 1, 0, 0, 0, .null, []) :: am_c_MD_takes_1
def am_c_MD_clears : List am_E := [(0, .iconst 0, 1, 0, 0, 0, .int 0, []),
  (1, .istore_n 1, 1, 0, 0, 0, .null, []),
  (2, .iload_n 1, 1, 0, 0, 0, .null, [(0, 0)]),
  (3, .bipush 12, 2, 0, 0, 0, .int 12, []),
  (5, .if_icmp .ge 16, 3, 21, 0, 0, .null, []),
  (8, .aload_n 0, 1, 0, 0, 0, .null, []),
  (9, .getfield 25, 3, 11, 7, 2, .null, []),
  (12, .iload_n 1, 1, 0, 0, 0, .null, []),
  (13, .iconst 0, 1, 0, 0, 0, .int 0, []),
  (14, .iastore, 1, 0, 0, 0, .null, []),
  (15, .iinc 1 1, 3, 0, 0, 0, .int 1, []),
  (18, .goto (-16), 3, 2, 0, 0, .null, []),
  (21, .iconst 0, 1, 0, 0, 0, .int 0, []),
  (22, .istore_n 1, 1, 0, 0, 0, .null, []),
  (23, .iload_n 1, 1, 0, 0, 0, .null, [(0, 0)]),
  (24, .bipush 7, 2, 0, 0, 0, .int 7, []),
  (26, .if_icmp .ge 16, 3, 42, 0, 0, .null, []),
  (29, .aload_n 0, 1, 0, 0, 0, .null, []),
  (30, .getfield 22, 3, 11, 6, 2, .null, []),
  (33, .iload_n 1, 1, 0, 0, 0, .null, []),
  (34, .iconst 0, 1, 0, 0, 0, .int 0, []),
  (35, .iastore, 1, 0, 0, 0, .null, []),
  (36, .iinc 1 1, 3, 0, 0, 0, .int 1, []),
  (39, .goto (-16), 3, 23, 0, 0, .null, []),
  (42, .return_, 1, 0, 0, 0, .null, [])]
def am_c_MD_bears : List am_E := [(0, .iconst 1, 1, 0, 0, 0, .int 1, []),
  (1, .istore_n 2, 1, 0, 0, 0, .null, []),
  (2, .iconst 0, 1, 0, 0, 0, .int 0, []),
  (3, .istore_n 3, 1, 0, 0, 0, .null, []),
  (4, .iload_n 3, 1, 0, 0, 0, .null, [(0, 0)]),
  (5, .aload_n 0, 1, 0, 0, 0, .null, []),
  (6, .getfield 7, 3, 11, 0, 2, .null, []),
  (9, .iconst 1, 1, 0, 0, 0, .int 1, []),
  (10, .iaload, 1, 0, 0, 0, .null, []),
  (11, .if_icmp .ge 73, 3, 84, 0, 0, .null, []),
  (14, .iload_n 2, 1, 0, 0, 0, .null, []),
  (15, .ifCond .eq 69, 3, 84, 0, 0, .null, []),
  (18, .iconst 0, 1, 0, 0, 0, .int 0, []),
  (19, .istore 4, 2, 0, 0, 0, .null, []),
  (21, .iconst 0, 1, 0, 0, 0, .int 0, []),
  (22, .istore 5, 2, 0, 0, 0, .null, []),
  (24, .iload 5, 2, 0, 0, 0, .null, [(0, 0)]),
  (26, .bipush 7, 2, 0, 0, 0, .int 7, []),
  (28, .if_icmp .ge 38, 3, 66, 0, 0, .null, []),
  (31, .iload 4, 2, 0, 0, 0, .null, []),
  (33, .aload_n 0, 1, 0, 0, 0, .null, []),
  (34, .iload_n 3, 1, 0, 0, 0, .null, []),
  (35, .invokevirtual 69, 3, 136, 1, 13, .null, []),
  (38, .iload 5, 2, 0, 0, 0, .null, []),
  (40, .invokestatic 91, 3, 133, 2, 0, .null, []),
  (43, .ifCond .eq 13, 3, 56, 0, 0, .null, []),
  (46, .aload_n 0, 1, 0, 0, 0, .null, []),
  (47, .getfield 22, 3, 11, 6, 2, .null, []),
  (50, .iload 5, 2, 0, 0, 0, .null, []),
  (52, .iaload, 1, 0, 0, 0, .null, []),
  (53, .goto 4, 3, 57, 0, 0, .null, []),
  (56, .iconst 0, 1, 0, 0, 0, .int 0, []),
  (57, .iadd, 1, 0, 0, 0, .null, []),
  (58, .istore 4, 2, 0, 0, 0, .null, []),
  (60, .iinc 5 1, 3, 0, 0, 0, .int 1, []),
  (63, .goto (-39), 3, 24, 0, 0, .null, []),
  (66, .iload 4, 2, 0, 0, 0, .null, []),
  (68, .iload_n 1, 1, 0, 0, 0, .null, []),
  (69, .if_icmp .lt 7, 3, 76, 0, 0, .null, []),
  (72, .iconst 1, 1, 0, 0, 0, .int 1, []),
  (73, .goto 4, 3, 77, 0, 0, .null, []),
  (76, .iconst 0, 1, 0, 0, 0, .int 0, []),
  (77, .istore_n 2, 1, 0, 0, 0, .null, []),
  (78, .iinc 3 1, 3, 0, 0, 0, .int 1, []),
  (81, .goto (-77), 3, 4, 0, 0, .null, []),
  (84, .iload_n 2, 1, 0, 0, 0, .null, []),
  (85, .ireturn, 1, 0, 0, 0, .null, [])]
def am_c_MD_loadOf : List am_E := [(0, .iconst 0, 1, 0, 0, 0, .int 0, []),
  (1, .istore_n 2, 1, 0, 0, 0, .null, []),
  (2, .iconst 0, 1, 0, 0, 0, .int 0, []),
  (3, .istore_n 3, 1, 0, 0, 0, .null, []),
  (4, .iload_n 3, 1, 0, 0, 0, .null, [(0, 0)]),
  (5, .aload_n 0, 1, 0, 0, 0, .null, []),
  (6, .getfield 7, 3, 11, 0, 2, .null, []),
  (9, .iconst 1, 1, 0, 0, 0, .int 1, []),
  (10, .iaload, 1, 0, 0, 0, .null, []),
  (11, .if_icmp .ge 34, 3, 45, 0, 0, .null, []),
  (14, .iload_n 2, 1, 0, 0, 0, .null, []),
  (15, .aload_n 0, 1, 0, 0, 0, .null, []),
  (16, .iload_n 3, 1, 0, 0, 0, .null, []),
  (17, .invokevirtual 69, 3, 136, 1, 13, .null, []),
  (20, .iload_n 1, 1, 0, 0, 0, .null, []),
  (21, .invokestatic 91, 3, 133, 2, 0, .null, []),
  (24, .ifCond .eq 12, 3, 36, 0, 0, .null, []),
  (27, .aload_n 0, 1, 0, 0, 0, .null, []),
  (28, .getfield 25, 3, 11, 7, 2, .null, []),
  (31, .iload_n 3, 1, 0, 0, 0, .null, []),
  (32, .iaload, 1, 0, 0, 0, .null, []),
  (33, .goto 4, 3, 37, 0, 0, .null, []),
  (36, .iconst 0, 1, 0, 0, 0, .int 0, []),
  (37, .iadd, 1, 0, 0, 0, .null, []),
  (38, .istore_n 2, 1, 0, 0, 0, .null, []),
  (39, .iinc 3 1, 3, 0, 0, 0, .int 1, []),
  (42, .goto (-38), 3, 4, 0, 0, .null, []),
  (45, .iload_n 2, 1, 0, 0, 0, .null, []),
  (46, .ireturn, 1, 0, 0, 0, .null, [])]
def am_c_MD_evens_2 : List am_E := [(184, .goto (-35), 3, 149, 0, 0, .null, []),
  (187, .aload_n 0, 1, 0, 0, 0, .null, []),
  (188, .iload 4, 2, 0, 0, 0, .null, []),
  (190, .iload 6, 2, 0, 0, 0, .null, []),
  (192, .invokevirtual 147, 3, 148, 2, 13, .null, []),
  (195, .iconst 1, 1, 0, 0, 0, .int 1, []),
  (196, .ireturn, 1, 0, 0, 0, .null, [])]
def am_c_MD_evens_1 : List am_E := (92, .iload 4, 2, 0, 0, 0, .null, []) ::
  (94, .invokevirtual 141, 3, 155, 1, 13, .null, []) ::
  (97, .ifCond .ne 5, 3, 102, 0, 0, .null, []) ::
  (100, .iconst 0, 1, 0, 0, 0, .int 0, []) ::
  (101, .ireturn, 1, 0, 0, 0, .null, []) ::
  (102, .aload_n 0, 1, 0, 0, 0, .null, []) ::
  (103, .iload_n 3, 1, 0, 0, 0, .null, []) ::
  (104, .iconst 1, 1, 0, 0, 0, .int 1, []) ::
  (105, .invokevirtual 130, 3, 150, 2, 13, .null, []) ::
  (108, .aload_n 0, 1, 0, 0, 0, .null, []) ::
  (109, .iload_n 3, 1, 0, 0, 0, .null, []) ::
  (110, .invokevirtual 134, 3, 152, 1, 13, .null, []) ::
  (113, .istore 5, 2, 0, 0, 0, .null, []) ::
  (115, .aload_n 0, 1, 0, 0, 0, .null, []) ::
  (116, .iload_n 3, 1, 0, 0, 0, .null, []) ::
  (117, .iload 5, 2, 0, 0, 0, .null, []) ::
  (119, .iconst 1, 1, 0, 0, 0, .int 1, []) ::
  (120, .invokevirtual 137, 3, 153, 3, 13, .null, []) ::
  (123, .ifCond .ne 5, 3, 128, 0, 0, .null, []) ::
  (126, .iconst 0, 1, 0, 0, 0, .int 0, []) ::
  (127, .ireturn, 1, 0, 0, 0, .null, []) ::
  (128, .iload 5, 2, 0, 0, 0, .null, []) ::
  (130, .ifCond .ge 9, 3, 139, 0, 0, .null, []) ::
  (133, .iload 5, 2, 0, 0, 0, .null, []) ::
  (135, .ineg, 1, 0, 0, 0, .null, []) ::
  (136, .goto 5, 3, 141, 0, 0, .null, []) ::
  (139, .iload 5, 2, 0, 0, 0, .null, []) ::
  (141, .istore 5, 2, 0, 0, 0, .null, []) ::
  (143, .iconst 0, 1, 0, 0, 0, .int 0, []) ::
  (144, .istore 6, 2, 0, 0, 0, .null, []) ::
  (146, .iconst 0, 1, 0, 0, 0, .int 0, []) ::
  (147, .istore 7, 2, 0, 0, 0, .null, []) ::
  (149, .iload 7, 2, 0, 0, 0, .null, [(0, 0)]) ::
  (151, .bipush 7, 2, 0, 0, 0, .int 7, []) ::
  (153, .if_icmp .ge 34, 3, 187, 0, 0, .null, []) ::
  (156, .iload 6, 2, 0, 0, 0, .null, []) ::
  (158, .aload_n 0, 1, 0, 0, 0, .null, []) ::
  (159, .getfield 22, 3, 11, 6, 2, .null, []) ::
  (162, .iload 7, 2, 0, 0, 0, .null, []) ::
  (164, .iaload, 1, 0, 0, 0, .null, []) ::
  (165, .iadd, 1, 0, 0, 0, .null, []) ::
  (166, .istore 6, 2, 0, 0, 0, .null, []) ::
  (168, .aload_n 0, 1, 0, 0, 0, .null, []) ::
  (169, .iload 7, 2, 0, 0, 0, .null, []) ::
  (171, .invokevirtual 144, 3, 156, 1, 13, .null, []) ::
  (174, .iload 5, 2, 0, 0, 0, .null, []) ::
  (176, .if_icmp .le 5, 3, 181, 0, 0, .null, []) ::
  (179, .iconst 0, 1, 0, 0, 0, .int 0, []) ::
  (180, .ireturn, 1, 0, 0, 0, .null, []) ::
  (181, .iinc 7 1, 3, 0, 0, 0, .int 1, []) :: am_c_MD_evens_2
def am_c_MD_evens : List am_E := (0, .iload_n 2, 1, 0, 0, 0, .null, []) ::
  (1, .invokestatic 73, 3, 134, 1, 0, .null, []) ::
  (4, .istore_n 3, 1, 0, 0, 0, .null, []) ::
  (5, .iconst 0, 1, 0, 0, 0, .int 0, []) ::
  (6, .istore 4, 2, 0, 0, 0, .null, []) ::
  (8, .iload 4, 2, 0, 0, 0, .null, [(0, 0)]) ::
  (10, .iload_n 3, 1, 0, 0, 0, .null, []) ::
  (11, .if_icmp .ge 35, 3, 46, 0, 0, .null, []) ::
  (14, .aload_n 0, 1, 0, 0, 0, .null, []) ::
  (15, .getfield 16, 3, 11, 4, 2, .null, []) ::
  (18, .iload 4, 2, 0, 0, 0, .null, []) ::
  (20, .iload_n 1, 1, 0, 0, 0, .null, []) ::
  (21, .iload 4, 2, 0, 0, 0, .null, []) ::
  (23, .invokestatic 123, 3, 149, 2, 0, .null, []) ::
  (26, .iastore, 1, 0, 0, 0, .null, []) ::
  (27, .aload_n 0, 1, 0, 0, 0, .null, []) ::
  (28, .getfield 19, 3, 11, 5, 2, .null, []) ::
  (31, .iload 4, 2, 0, 0, 0, .null, []) ::
  (33, .iload_n 2, 1, 0, 0, 0, .null, []) ::
  (34, .iload 4, 2, 0, 0, 0, .null, []) ::
  (36, .invokestatic 123, 3, 149, 2, 0, .null, []) ::
  (39, .iastore, 1, 0, 0, 0, .null, []) ::
  (40, .iinc 4 1, 3, 0, 0, 0, .int 1, []) ::
  (43, .goto (-35), 3, 8, 0, 0, .null, []) ::
  (46, .aload_n 0, 1, 0, 0, 0, .null, []) ::
  (47, .invokevirtual 127, 3, 154, 0, 13, .null, []) ::
  (50, .aload_n 0, 1, 0, 0, 0, .null, []) ::
  (51, .iload_n 3, 1, 0, 0, 0, .null, []) ::
  (52, .iconst 0, 1, 0, 0, 0, .int 0, []) ::
  (53, .invokevirtual 130, 3, 150, 2, 13, .null, []) ::
  (56, .aload_n 0, 1, 0, 0, 0, .null, []) ::
  (57, .iload_n 3, 1, 0, 0, 0, .null, []) ::
  (58, .invokevirtual 134, 3, 152, 1, 13, .null, []) ::
  (61, .istore 4, 2, 0, 0, 0, .null, []) ::
  (63, .aload_n 0, 1, 0, 0, 0, .null, []) ::
  (64, .iload_n 3, 1, 0, 0, 0, .null, []) ::
  (65, .iload 4, 2, 0, 0, 0, .null, []) ::
  (67, .iconst 0, 1, 0, 0, 0, .int 0, []) ::
  (68, .invokevirtual 137, 3, 153, 3, 13, .null, []) ::
  (71, .ifCond .ne 5, 3, 76, 0, 0, .null, []) ::
  (74, .iconst 0, 1, 0, 0, 0, .int 0, []) ::
  (75, .ireturn, 1, 0, 0, 0, .null, []) ::
  (76, .iload 4, 2, 0, 0, 0, .null, []) ::
  (78, .ifCond .ge 9, 3, 87, 0, 0, .null, []) ::
  (81, .iload 4, 2, 0, 0, 0, .null, []) ::
  (83, .ineg, 1, 0, 0, 0, .null, []) ::
  (84, .goto 5, 3, 89, 0, 0, .null, []) ::
  (87, .iload 4, 2, 0, 0, 0, .null, []) ::
  (89, .istore 4, 2, 0, 0, 0, .null, []) ::
  (91, .aload_n 0, 1, 0, 0, 0, .null, []) :: am_c_MD_evens_1
def am_c_MD_slim : List am_E := [(0, .iconst 0, 1, 0, 0, 0, .int 0, []),
  (1, .istore_n 1, 1, 0, 0, 0, .null, []),
  (2, .iconst 0, 1, 0, 0, 0, .int 0, []),
  (3, .istore_n 2, 1, 0, 0, 0, .null, []),
  (4, .iload_n 2, 1, 0, 0, 0, .null, [(0, 0)]),
  (5, .aload_n 0, 1, 0, 0, 0, .null, []),
  (6, .getfield 7, 3, 11, 0, 2, .null, []),
  (9, .iconst 1, 1, 0, 0, 0, .int 1, []),
  (10, .iaload, 1, 0, 0, 0, .null, []),
  (11, .if_icmp .ge 27, 3, 38, 0, 0, .null, []),
  (14, .iload_n 1, 1, 0, 0, 0, .null, []),
  (15, .aload_n 0, 1, 0, 0, 0, .null, []),
  (16, .iload_n 2, 1, 0, 0, 0, .null, []),
  (17, .invokevirtual 80, 3, 139, 1, 13, .null, []),
  (20, .ifCond .eq 7, 3, 27, 0, 0, .null, []),
  (23, .iconst 0, 1, 0, 0, 0, .int 0, []),
  (24, .goto 6, 3, 30, 0, 0, .null, []),
  (27, .iconst 1, 1, 0, 0, 0, .int 1, []),
  (28, .iload_n 2, 1, 0, 0, 0, .null, []),
  (29, .ishl, 1, 0, 0, 0, .null, []),
  (30, .ior, 1, 0, 0, 0, .null, []),
  (31, .istore_n 1, 1, 0, 0, 0, .null, []),
  (32, .iinc 2 1, 3, 0, 0, 0, .int 1, []),
  (35, .goto (-31), 3, 4, 0, 0, .null, []),
  (38, .iload_n 1, 1, 0, 0, 0, .null, []),
  (39, .ireturn, 1, 0, 0, 0, .null, [])]
def am_c_MD_loads : List am_E := [(0, .aload_n 0, 1, 0, 0, 0, .null, []),
  (1, .invokevirtual 150, 3, 158, 0, 13, .null, []),
  (4, .istore_n 1, 1, 0, 0, 0, .null, []),
  (5, .iconst 0, 1, 0, 0, 0, .int 0, []),
  (6, .istore_n 2, 1, 0, 0, 0, .null, []),
  (7, .iconst 1, 1, 0, 0, 0, .int 1, []),
  (8, .istore_n 3, 1, 0, 0, 0, .null, []),
  (9, .iload_n 3, 1, 0, 0, 0, .null, [(0, 0)]),
  (10, .aload_n 0, 1, 0, 0, 0, .null, []),
  (11, .invokevirtual 87, 3, 135, 0, 13, .null, []),
  (14, .if_icmp .gt 75, 3, 89, 0, 0, .null, []),
  (17, .iload_n 2, 1, 0, 0, 0, .null, []),
  (18, .ifCond .ne 71, 3, 89, 0, 0, .null, []),
  (21, .iload_n 3, 1, 0, 0, 0, .null, []),
  (22, .invokestatic 73, 3, 134, 1, 0, .null, []),
  (25, .istore 4, 2, 0, 0, 0, .null, []),
  (27, .iconst 1, 1, 0, 0, 0, .int 1, []),
  (28, .istore 5, 2, 0, 0, 0, .null, []),
  (30, .iload 5, 2, 0, 0, 0, .null, [(0, 0)]),
  (32, .sipush 4096, 3, 0, 0, 0, .int 4096, []),
  (35, .if_icmp .ge 48, 3, 83, 0, 0, .null, []),
  (38, .iload_n 2, 1, 0, 0, 0, .null, []),
  (39, .ifCond .ne 44, 3, 83, 0, 0, .null, []),
  (42, .iload 5, 2, 0, 0, 0, .null, []),
  (44, .iload_n 1, 1, 0, 0, 0, .null, []),
  (45, .iconst (-1), 1, 0, 0, 0, .int (-1), []),
  (46, .ixor, 1, 0, 0, 0, .null, []),
  (47, .iand, 1, 0, 0, 0, .null, []),
  (48, .ifCond .ne 27, 3, 75, 0, 0, .null, []),
  (51, .iload 5, 2, 0, 0, 0, .null, []),
  (53, .invokestatic 73, 3, 134, 1, 0, .null, []),
  (56, .iload 4, 2, 0, 0, 0, .null, []),
  (58, .if_icmp .ne 17, 3, 75, 0, 0, .null, []),
  (61, .aload_n 0, 1, 0, 0, 0, .null, []),
  (62, .iload 5, 2, 0, 0, 0, .null, []),
  (64, .iload_n 3, 1, 0, 0, 0, .null, []),
  (65, .invokevirtual 153, 3, 157, 2, 13, .null, []),
  (68, .ifCond .eq 7, 3, 75, 0, 0, .null, []),
  (71, .iconst 1, 1, 0, 0, 0, .int 1, []),
  (72, .goto 4, 3, 76, 0, 0, .null, []),
  (75, .iconst 0, 1, 0, 0, 0, .int 0, []),
  (76, .istore_n 2, 1, 0, 0, 0, .null, []),
  (77, .iinc 5 1, 3, 0, 0, 0, .int 1, []),
  (80, .goto (-50), 3, 30, 0, 0, .null, []),
  (83, .iinc 3 1, 3, 0, 0, 0, .int 1, []),
  (86, .goto (-77), 3, 9, 0, 0, .null, []),
  (89, .return_, 1, 0, 0, 0, .null, [])]
def am_c_MD_load : List am_E := [(0, .iload_n 1, 1, 0, 0, 0, .null, []),
  (1, .i2l, 1, 0, 0, 0, .null, []),
  (2, .lconst 0, 1, 0, 0, 0, .long 0, []),
  (3, .lconst 1, 1, 0, 0, 0, .long 1, []),
  (4, .invokestatic 76, 3, 131, 3, 0, .null, []),
  (7, .ifCond .ne 5, 3, 12, 0, 0, .null, []),
  (10, .iconst (-1), 1, 0, 0, 0, .int (-1), []),
  (11, .ireturn, 1, 0, 0, 0, .null, []),
  (12, .aload_n 0, 1, 0, 0, 0, .null, []),
  (13, .getfield 7, 3, 11, 0, 2, .null, []),
  (16, .iconst 1, 1, 0, 0, 0, .int 1, []),
  (17, .iaload, 1, 0, 0, 0, .null, []),
  (18, .ifCond .ne 6, 3, 24, 0, 0, .null, []),
  (21, .bipush (-4), 2, 0, 0, 0, .int (-4), []),
  (23, .ireturn, 1, 0, 0, 0, .null, []),
  (24, .aload_n 0, 1, 0, 0, 0, .null, []),
  (25, .invokevirtual 156, 3, 159, 0, 13, .null, []),
  (28, .iload_n 1, 1, 0, 0, 0, .null, []),
  (29, .ifCond .ne 10, 3, 39, 0, 0, .null, []),
  (32, .aload_n 0, 1, 0, 0, 0, .null, []),
  (33, .getfield 113, 3, 11, 1, 0, .null, []),
  (36, .goto 7, 3, 43, 0, 0, .null, []),
  (39, .aload_n 0, 1, 0, 0, 0, .null, []),
  (40, .getfield 116, 3, 11, 2, 0, .null, []),
  (43, .ireturn, 1, 0, 0, 0, .null, [])]
def am_c_MD_planAt : List am_E := [(0, .bipush (-4), 2, 0, 0, 0, .int (-4), []),
  (2, .istore_n 2, 1, 0, 0, 0, .null, []),
  (3, .iconst 0, 1, 0, 0, 0, .int 0, []),
  (4, .istore_n 3, 1, 0, 0, 0, .null, []),
  (5, .iload_n 3, 1, 0, 0, 0, .null, [(0, 0)]),
  (6, .aload_n 0, 1, 0, 0, 0, .null, []),
  (7, .getfield 7, 3, 11, 0, 2, .null, []),
  (10, .iconst 3, 1, 0, 0, 0, .int 3, []),
  (11, .iaload, 1, 0, 0, 0, .null, []),
  (12, .if_icmp .ge 31, 3, 43, 0, 0, .null, []),
  (15, .aload_n 0, 1, 0, 0, 0, .null, []),
  (16, .getfield 7, 3, 11, 0, 2, .null, []),
  (19, .bipush 16, 2, 0, 0, 0, .int 16, []),
  (21, .bipush 25, 2, 0, 0, 0, .int 25, []),
  (23, .iload_n 3, 1, 0, 0, 0, .null, []),
  (24, .imul, 1, 0, 0, 0, .null, []),
  (25, .iadd, 1, 0, 0, 0, .null, []),
  (26, .iaload, 1, 0, 0, 0, .null, []),
  (27, .iload_n 1, 1, 0, 0, 0, .null, []),
  (28, .if_icmp .ne 7, 3, 35, 0, 0, .null, []),
  (31, .iload_n 3, 1, 0, 0, 0, .null, []),
  (32, .goto 4, 3, 36, 0, 0, .null, []),
  (35, .iload_n 2, 1, 0, 0, 0, .null, []),
  (36, .istore_n 2, 1, 0, 0, 0, .null, []),
  (37, .iinc 3 1, 3, 0, 0, 0, .int 1, []),
  (40, .goto (-35), 3, 5, 0, 0, .null, []),
  (43, .iload_n 2, 1, 0, 0, 0, .null, []),
  (44, .ireturn, 1, 0, 0, 0, .null, [])]
def am_c_MD_weighs_1 : List am_E := [(80, .iadd, 1, 0, 0, 0, .null, []),
  (81, .iastore, 1, 0, 0, 0, .null, []),
  (82, .iinc 4 1, 3, 0, 0, 0, .int 1, []),
  (85, .goto (-64), 3, 21, 0, 0, .null, []),
  (88, .iload_n 2, 1, 0, 0, 0, .null, []),
  (89, .aload_n 0, 1, 0, 0, 0, .null, []),
  (90, .getfield 25, 3, 11, 7, 2, .null, []),
  (93, .iload_n 3, 1, 0, 0, 0, .null, []),
  (94, .iaload, 1, 0, 0, 0, .null, []),
  (95, .iadd, 1, 0, 0, 0, .null, []),
  (96, .istore_n 2, 1, 0, 0, 0, .null, []),
  (97, .iinc 3 1, 3, 0, 0, 0, .int 1, []),
  (100, .goto (-92), 3, 8, 0, 0, .null, []),
  (103, .iload_n 2, 1, 0, 0, 0, .null, []),
  (104, .ireturn, 1, 0, 0, 0, .null, [])]
def am_c_MD_weighs : List am_E := (0, .aload_n 0, 1, 0, 0, 0, .null, []) ::
  (1, .invokevirtual 127, 3, 154, 0, 13, .null, []) ::
  (4, .iconst 0, 1, 0, 0, 0, .int 0, []) ::
  (5, .istore_n 2, 1, 0, 0, 0, .null, []) ::
  (6, .iconst 0, 1, 0, 0, 0, .int 0, []) ::
  (7, .istore_n 3, 1, 0, 0, 0, .null, []) ::
  (8, .iload_n 3, 1, 0, 0, 0, .null, [(0, 0)]) ::
  (9, .aload_n 0, 1, 0, 0, 0, .null, []) ::
  (10, .getfield 7, 3, 11, 0, 2, .null, []) ::
  (13, .iconst 1, 1, 0, 0, 0, .int 1, []) ::
  (14, .iaload, 1, 0, 0, 0, .null, []) ::
  (15, .if_icmp .ge 88, 3, 103, 0, 0, .null, []) ::
  (18, .iconst 1, 1, 0, 0, 0, .int 1, []) ::
  (19, .istore 4, 2, 0, 0, 0, .null, []) ::
  (21, .iload 4, 2, 0, 0, 0, .null, [(0, 0)]) ::
  (23, .bipush 12, 2, 0, 0, 0, .int 12, []) ::
  (25, .if_icmp .gt 63, 3, 88, 0, 0, .null, []) ::
  (28, .aload_n 0, 1, 0, 0, 0, .null, []) ::
  (29, .getfield 25, 3, 11, 7, 2, .null, []) ::
  (32, .iload_n 3, 1, 0, 0, 0, .null, []) ::
  (33, .dup2, 1, 0, 0, 0, .null, []) ::
  (34, .iaload, 1, 0, 0, 0, .null, []) ::
  (35, .aload_n 0, 1, 0, 0, 0, .null, []) ::
  (36, .getfield 7, 3, 11, 0, 2, .null, []) ::
  (39, .bipush 16, 2, 0, 0, 0, .int 16, []) ::
  (41, .bipush 25, 2, 0, 0, 0, .int 25, []) ::
  (43, .iload_n 1, 1, 0, 0, 0, .null, []) ::
  (44, .imul, 1, 0, 0, 0, .null, []) ::
  (45, .iadd, 1, 0, 0, 0, .null, []) ::
  (46, .iload 4, 2, 0, 0, 0, .null, []) ::
  (48, .iadd, 1, 0, 0, 0, .null, []) ::
  (49, .iaload, 1, 0, 0, 0, .null, []) ::
  (50, .aload_n 0, 1, 0, 0, 0, .null, []) ::
  (51, .iload_n 3, 1, 0, 0, 0, .null, []) ::
  (52, .invokevirtual 69, 3, 136, 1, 13, .null, []) ::
  (55, .if_icmp .ne 24, 3, 79, 0, 0, .null, []) ::
  (58, .aload_n 0, 1, 0, 0, 0, .null, []) ::
  (59, .getfield 7, 3, 11, 0, 2, .null, []) ::
  (62, .bipush 16, 2, 0, 0, 0, .int 16, []) ::
  (64, .bipush 25, 2, 0, 0, 0, .int 25, []) ::
  (66, .iload_n 1, 1, 0, 0, 0, .null, []) ::
  (67, .imul, 1, 0, 0, 0, .null, []) ::
  (68, .iadd, 1, 0, 0, 0, .null, []) ::
  (69, .bipush 12, 2, 0, 0, 0, .int 12, []) ::
  (71, .iadd, 1, 0, 0, 0, .null, []) ::
  (72, .iload 4, 2, 0, 0, 0, .null, []) ::
  (74, .iadd, 1, 0, 0, 0, .null, []) ::
  (75, .iaload, 1, 0, 0, 0, .null, []) ::
  (76, .goto 4, 3, 80, 0, 0, .null, []) ::
  (79, .iconst 0, 1, 0, 0, 0, .int 0, []) :: am_c_MD_weighs_1
def am_c_MD_plan_1 : List am_E := [(93, .istore 5, 2, 0, 0, 0, .null, []),
  (95, .iinc 6 1, 3, 0, 0, 0, .int 1, []),
  (98, .goto (-34), 3, 64, 0, 0, .null, []),
  (101, .aload_n 0, 1, 0, 0, 0, .null, []),
  (102, .iload 5, 2, 0, 0, 0, .null, []),
  (104, .iload 4, 2, 0, 0, 0, .null, []),
  (106, .invokevirtual 147, 3, 148, 2, 13, .null, []),
  (109, .iload_n 2, 1, 0, 0, 0, .null, []),
  (110, .iconst 2, 1, 0, 0, 0, .int 2, []),
  (111, .if_icmp .ge 19, 3, 130, 0, 0, .null, []),
  (114, .iload_n 2, 1, 0, 0, 0, .null, []),
  (115, .ifCond .ne 10, 3, 125, 0, 0, .null, []),
  (118, .aload_n 0, 1, 0, 0, 0, .null, []),
  (119, .getfield 113, 3, 11, 1, 0, .null, []),
  (122, .goto 7, 3, 129, 0, 0, .null, []),
  (125, .aload_n 0, 1, 0, 0, 0, .null, []),
  (126, .getfield 116, 3, 11, 2, 0, .null, []),
  (129, .ireturn, 1, 0, 0, 0, .null, []),
  (130, .aload_n 0, 1, 0, 0, 0, .null, []),
  (131, .getfield 113, 3, 11, 1, 0, .null, []),
  (134, .istore 6, 2, 0, 0, 0, .null, []),
  (136, .aload_n 0, 1, 0, 0, 0, .null, []),
  (137, .getfield 116, 3, 11, 2, 0, .null, []),
  (140, .istore 7, 2, 0, 0, 0, .null, []),
  (142, .aload_n 0, 1, 0, 0, 0, .null, []),
  (143, .invokevirtual 156, 3, 159, 0, 13, .null, []),
  (146, .iload 6, 2, 0, 0, 0, .null, []),
  (148, .aload_n 0, 1, 0, 0, 0, .null, []),
  (149, .getfield 113, 3, 11, 1, 0, .null, []),
  (152, .if_icmp .ne 16, 3, 168, 0, 0, .null, []),
  (155, .iload 7, 2, 0, 0, 0, .null, []),
  (157, .aload_n 0, 1, 0, 0, 0, .null, []),
  (158, .getfield 116, 3, 11, 2, 0, .null, []),
  (161, .if_icmp .ne 7, 3, 168, 0, 0, .null, []),
  (164, .iconst 1, 1, 0, 0, 0, .int 1, []),
  (165, .goto 4, 3, 169, 0, 0, .null, []),
  (168, .iconst 0, 1, 0, 0, 0, .int 0, []),
  (169, .ireturn, 1, 0, 0, 0, .null, [])]
def am_c_MD_plan : List am_E := (0, .iload_n 1, 1, 0, 0, 0, .null, []) ::
  (1, .i2l, 1, 0, 0, 0, .null, []) ::
  (2, .lconst 0, 1, 0, 0, 0, .long 0, []) ::
  (3, .ldc2_w 159, 3, 0, 0, 0, .long 99, []) ::
  (6, .invokestatic 76, 3, 131, 3, 0, .null, []) ::
  (9, .ifCond .eq 15, 3, 24, 0, 0, .null, []) ::
  (12, .iload_n 2, 1, 0, 0, 0, .null, []) ::
  (13, .i2l, 1, 0, 0, 0, .null, []) ::
  (14, .lconst 0, 1, 0, 0, 0, .long 0, []) ::
  (15, .ldc2_w 161, 3, 0, 0, 0, .long 3, []) ::
  (18, .invokestatic 76, 3, 131, 3, 0, .null, []) ::
  (21, .ifCond .ne 5, 3, 26, 0, 0, .null, []) ::
  (24, .iconst (-1), 1, 0, 0, 0, .int (-1), []) ::
  (25, .ireturn, 1, 0, 0, 0, .null, []) ::
  (26, .aload_n 0, 1, 0, 0, 0, .null, []) ::
  (27, .iload_n 1, 1, 0, 0, 0, .null, []) ::
  (28, .invokevirtual 163, 3, 161, 1, 13, .null, []) ::
  (31, .istore_n 3, 1, 0, 0, 0, .null, []) ::
  (32, .iload_n 3, 1, 0, 0, 0, .null, []) ::
  (33, .ifCond .lt 8, 3, 41, 0, 0, .null, []) ::
  (36, .iload_n 2, 1, 0, 0, 0, .null, []) ::
  (37, .iconst 3, 1, 0, 0, 0, .int 3, []) ::
  (38, .if_icmp .ne 5, 3, 43, 0, 0, .null, []) ::
  (41, .iload_n 3, 1, 0, 0, 0, .null, []) ::
  (42, .ireturn, 1, 0, 0, 0, .null, []) ::
  (43, .aload_n 0, 1, 0, 0, 0, .null, []) ::
  (44, .iload_n 3, 1, 0, 0, 0, .null, []) ::
  (45, .invokevirtual 166, 3, 162, 1, 13, .null, []) ::
  (48, .istore 4, 2, 0, 0, 0, .null, []) ::
  (50, .iload 4, 2, 0, 0, 0, .null, []) ::
  (52, .ifCond .ne 6, 3, 58, 0, 0, .null, []) ::
  (55, .bipush (-4), 2, 0, 0, 0, .int (-4), []) ::
  (57, .ireturn, 1, 0, 0, 0, .null, []) ::
  (58, .iconst 0, 1, 0, 0, 0, .int 0, []) ::
  (59, .istore 5, 2, 0, 0, 0, .null, []) ::
  (61, .iconst 0, 1, 0, 0, 0, .int 0, []) ::
  (62, .istore 6, 2, 0, 0, 0, .null, []) ::
  (64, .iload 6, 2, 0, 0, 0, .null, [(0, 0)]) ::
  (66, .bipush 7, 2, 0, 0, 0, .int 7, []) ::
  (68, .if_icmp .ge 33, 3, 101, 0, 0, .null, []) ::
  (71, .aload_n 0, 1, 0, 0, 0, .null, []) ::
  (72, .iload 6, 2, 0, 0, 0, .null, []) ::
  (74, .invokevirtual 144, 3, 156, 1, 13, .null, []) ::
  (77, .iload 5, 2, 0, 0, 0, .null, []) ::
  (79, .if_icmp .le 12, 3, 91, 0, 0, .null, []) ::
  (82, .aload_n 0, 1, 0, 0, 0, .null, []) ::
  (83, .iload 6, 2, 0, 0, 0, .null, []) ::
  (85, .invokevirtual 144, 3, 156, 1, 13, .null, []) ::
  (88, .goto 5, 3, 93, 0, 0, .null, []) ::
  (91, .iload 5, 2, 0, 0, 0, .null, []) :: am_c_MD_plan_1
def am_c_MD_drops : List am_E := [(0, .aload_n 0, 1, 0, 0, 0, .null, []),
  (1, .getfield 7, 3, 11, 0, 2, .null, []),
  (4, .iconst 3, 1, 0, 0, 0, .int 3, []),
  (5, .dup2, 1, 0, 0, 0, .null, []),
  (6, .iaload, 1, 0, 0, 0, .null, []),
  (7, .iconst 1, 1, 0, 0, 0, .int 1, []),
  (8, .isub, 1, 0, 0, 0, .null, []),
  (9, .iastore, 1, 0, 0, 0, .null, []),
  (10, .bipush 25, 2, 0, 0, 0, .int 25, []),
  (12, .iload_n 1, 1, 0, 0, 0, .null, []),
  (13, .imul, 1, 0, 0, 0, .null, []),
  (14, .istore_n 2, 1, 0, 0, 0, .null, []),
  (15, .iload_n 2, 1, 0, 0, 0, .null, [(0, 0)]),
  (16, .bipush 25, 2, 0, 0, 0, .int 25, []),
  (18, .aload_n 0, 1, 0, 0, 0, .null, []),
  (19, .getfield 7, 3, 11, 0, 2, .null, []),
  (22, .iconst 3, 1, 0, 0, 0, .int 3, []),
  (23, .iaload, 1, 0, 0, 0, .null, []),
  (24, .imul, 1, 0, 0, 0, .null, []),
  (25, .if_icmp .ge 30, 3, 55, 0, 0, .null, []),
  (28, .aload_n 0, 1, 0, 0, 0, .null, []),
  (29, .getfield 7, 3, 11, 0, 2, .null, []),
  (32, .bipush 16, 2, 0, 0, 0, .int 16, []),
  (34, .iload_n 2, 1, 0, 0, 0, .null, []),
  (35, .iadd, 1, 0, 0, 0, .null, []),
  (36, .aload_n 0, 1, 0, 0, 0, .null, []),
  (37, .getfield 7, 3, 11, 0, 2, .null, []),
  (40, .bipush 16, 2, 0, 0, 0, .int 16, []),
  (42, .iload_n 2, 1, 0, 0, 0, .null, []),
  (43, .iadd, 1, 0, 0, 0, .null, []),
  (44, .bipush 25, 2, 0, 0, 0, .int 25, []),
  (46, .iadd, 1, 0, 0, 0, .null, []),
  (47, .iaload, 1, 0, 0, 0, .null, []),
  (48, .iastore, 1, 0, 0, 0, .null, []),
  (49, .iinc 2 1, 3, 0, 0, 0, .int 1, []),
  (52, .goto (-37), 3, 15, 0, 0, .null, []),
  (55, .return_, 1, 0, 0, 0, .null, [])]
def am_c_MD_keep_3 : List am_E := [(276, .iinc 10 1, 3, 0, 0, 0, .int 1, []),
  (279, .goto (-79), 3, 200, 0, 0, .null, []),
  (282, .aload_n 0, 1, 0, 0, 0, .null, []),
  (283, .getfield 7, 3, 11, 0, 2, .null, []),
  (286, .iconst 3, 1, 0, 0, 0, .int 3, []),
  (287, .dup2, 1, 0, 0, 0, .null, []),
  (288, .iaload, 1, 0, 0, 0, .null, []),
  (289, .iconst 1, 1, 0, 0, 0, .int 1, []),
  (290, .iadd, 1, 0, 0, 0, .null, []),
  (291, .iastore, 1, 0, 0, 0, .null, []),
  (292, .aload_n 0, 1, 0, 0, 0, .null, []),
  (293, .getfield 7, 3, 11, 0, 2, .null, []),
  (296, .iconst 3, 1, 0, 0, 0, .int 3, []),
  (297, .iaload, 1, 0, 0, 0, .null, []),
  (298, .ireturn, 1, 0, 0, 0, .null, [])]
def am_c_MD_keep_2 : List am_E := (189, .aload_n 0, 1, 0, 0, 0, .null, []) ::
  (190, .getfield 7, 3, 11, 0, 2, .null, []) ::
  (193, .iload 9, 2, 0, 0, 0, .null, []) ::
  (195, .iload_n 1, 1, 0, 0, 0, .null, []) ::
  (196, .iastore, 1, 0, 0, 0, .null, []) ::
  (197, .iconst 0, 1, 0, 0, 0, .int 0, []) ::
  (198, .istore 10, 2, 0, 0, 0, .null, []) ::
  (200, .iload 10, 2, 0, 0, 0, .null, [(0, 0)]) ::
  (202, .bipush 12, 2, 0, 0, 0, .int 12, []) ::
  (204, .if_icmp .ge 78, 3, 282, 0, 0, .null, []) ::
  (207, .aload_n 0, 1, 0, 0, 0, .null, []) ::
  (208, .getfield 7, 3, 11, 0, 2, .null, []) ::
  (211, .iload 9, 2, 0, 0, 0, .null, []) ::
  (213, .iconst 1, 1, 0, 0, 0, .int 1, []) ::
  (214, .iadd, 1, 0, 0, 0, .null, []) ::
  (215, .iload 10, 2, 0, 0, 0, .null, []) ::
  (217, .iadd, 1, 0, 0, 0, .null, []) ::
  (218, .iload 10, 2, 0, 0, 0, .null, []) ::
  (220, .iload 5, 2, 0, 0, 0, .null, []) ::
  (222, .if_icmp .ge 12, 3, 234, 0, 0, .null, []) ::
  (225, .aload_n 0, 1, 0, 0, 0, .null, []) ::
  (226, .iload 10, 2, 0, 0, 0, .null, []) ::
  (228, .invokevirtual 69, 3, 136, 1, 13, .null, []) ::
  (231, .goto 4, 3, 235, 0, 0, .null, []) ::
  (234, .iconst 0, 1, 0, 0, 0, .int 0, []) ::
  (235, .iastore, 1, 0, 0, 0, .null, []) ::
  (236, .aload_n 0, 1, 0, 0, 0, .null, []) ::
  (237, .getfield 7, 3, 11, 0, 2, .null, []) ::
  (240, .iload 9, 2, 0, 0, 0, .null, []) ::
  (242, .bipush 13, 2, 0, 0, 0, .int 13, []) ::
  (244, .iadd, 1, 0, 0, 0, .null, []) ::
  (245, .iload 10, 2, 0, 0, 0, .null, []) ::
  (247, .iadd, 1, 0, 0, 0, .null, []) ::
  (248, .iload 10, 2, 0, 0, 0, .null, []) ::
  (250, .iload 5, 2, 0, 0, 0, .null, []) ::
  (252, .if_icmp .ge 22, 3, 274, 0, 0, .null, []) ::
  (255, .aload_n 0, 1, 0, 0, 0, .null, []) ::
  (256, .getfield 62, 3, 11, 25, 2, .null, []) ::
  (259, .bipush 24, 2, 0, 0, 0, .int 24, []) ::
  (261, .iload_n 2, 1, 0, 0, 0, .null, []) ::
  (262, .imul, 1, 0, 0, 0, .null, []) ::
  (263, .iload 4, 2, 0, 0, 0, .null, []) ::
  (265, .iadd, 1, 0, 0, 0, .null, []) ::
  (266, .iload 10, 2, 0, 0, 0, .null, []) ::
  (268, .iadd, 1, 0, 0, 0, .null, []) ::
  (269, .laload, 1, 0, 0, 0, .null, []) ::
  (270, .l2i, 1, 0, 0, 0, .null, []) ::
  (271, .goto 4, 3, 275, 0, 0, .null, []) ::
  (274, .iconst 0, 1, 0, 0, 0, .int 0, []) ::
  (275, .iastore, 1, 0, 0, 0, .null, []) :: am_c_MD_keep_3
def am_c_MD_keep_1 : List am_E := (95, .imul, 1, 0, 0, 0, .null, []) ::
  (96, .iload 4, 2, 0, 0, 0, .null, []) ::
  (98, .iadd, 1, 0, 0, 0, .null, []) ::
  (99, .iload 8, 2, 0, 0, 0, .null, []) ::
  (101, .iadd, 1, 0, 0, 0, .null, []) ::
  (102, .laload, 1, 0, 0, 0, .null, []) ::
  (103, .lconst 0, 1, 0, 0, 0, .long 0, []) ::
  (104, .ldc2_w 159, 3, 0, 0, 0, .long 99, []) ::
  (107, .invokestatic 76, 3, 131, 3, 0, .null, []) ::
  (110, .ifCond .eq 7, 3, 117, 0, 0, .null, []) ::
  (113, .iconst 1, 1, 0, 0, 0, .int 1, []) ::
  (114, .goto 4, 3, 118, 0, 0, .null, []) ::
  (117, .iconst 0, 1, 0, 0, 0, .int 0, []) ::
  (118, .istore 7, 2, 0, 0, 0, .null, []) ::
  (120, .iinc 8 1, 3, 0, 0, 0, .int 1, []) ::
  (123, .goto (-47), 3, 76, 0, 0, .null, []) ::
  (126, .iload 7, 2, 0, 0, 0, .null, []) ::
  (128, .ifCond .ne 6, 3, 134, 0, 0, .null, []) ::
  (131, .bipush (-2), 2, 0, 0, 0, .int (-2), []) ::
  (133, .ireturn, 1, 0, 0, 0, .null, []) ::
  (134, .aload_n 0, 1, 0, 0, 0, .null, []) ::
  (135, .invokevirtual 176, 3, 197, 0, 13, .null, []) ::
  (138, .aload_n 0, 1, 0, 0, 0, .null, []) ::
  (139, .iload_n 1, 1, 0, 0, 0, .null, []) ::
  (140, .invokevirtual 163, 3, 161, 1, 13, .null, []) ::
  (143, .istore 8, 2, 0, 0, 0, .null, []) ::
  (145, .iload 8, 2, 0, 0, 0, .null, []) ::
  (147, .ifCond .ge 13, 3, 160, 0, 0, .null, []) ::
  (150, .aload_n 0, 1, 0, 0, 0, .null, []) ::
  (151, .getfield 7, 3, 11, 0, 2, .null, []) ::
  (154, .iconst 3, 1, 0, 0, 0, .int 3, []) ::
  (155, .iaload, 1, 0, 0, 0, .null, []) ::
  (156, .iconst 4, 1, 0, 0, 0, .int 4, []) ::
  (157, .if_icmp .ne 18, 3, 175, 0, 0, .null, []) ::
  (160, .aload_n 0, 1, 0, 0, 0, .null, []) ::
  (161, .iload 8, 2, 0, 0, 0, .null, []) ::
  (163, .ifCond .lt 8, 3, 171, 0, 0, .null, []) ::
  (166, .iload 8, 2, 0, 0, 0, .null, []) ::
  (168, .goto 4, 3, 172, 0, 0, .null, []) ::
  (171, .iconst 0, 1, 0, 0, 0, .int 0, []) ::
  (172, .invokevirtual 179, 3, 164, 1, 13, .null, []) ::
  (175, .bipush 16, 2, 0, 0, 0, .int 16, []) ::
  (177, .bipush 25, 2, 0, 0, 0, .int 25, []) ::
  (179, .aload_n 0, 1, 0, 0, 0, .null, []) ::
  (180, .getfield 7, 3, 11, 0, 2, .null, []) ::
  (183, .iconst 3, 1, 0, 0, 0, .int 3, []) ::
  (184, .iaload, 1, 0, 0, 0, .null, []) ::
  (185, .imul, 1, 0, 0, 0, .null, []) ::
  (186, .iadd, 1, 0, 0, 0, .null, []) ::
  (187, .istore 9, 2, 0, 0, 0, .null, []) :: am_c_MD_keep_2
def am_c_MD_keep : List am_E := (0, .iload_n 1, 1, 0, 0, 0, .null, []) ::
  (1, .i2l, 1, 0, 0, 0, .null, []) ::
  (2, .lconst 0, 1, 0, 0, 0, .long 0, []) ::
  (3, .ldc2_w 159, 3, 0, 0, 0, .long 99, []) ::
  (6, .invokestatic 76, 3, 131, 3, 0, .null, []) ::
  (9, .ifCond .eq 22, 3, 31, 0, 0, .null, []) ::
  (12, .iload_n 2, 1, 0, 0, 0, .null, []) ::
  (13, .invokestatic 169, 3, 201, 1, 0, .null, []) ::
  (16, .ifCond .eq 15, 3, 31, 0, 0, .null, []) ::
  (19, .iload_n 3, 1, 0, 0, 0, .null, []) ::
  (20, .i2l, 1, 0, 0, 0, .null, []) ::
  (21, .lconst 0, 1, 0, 0, 0, .long 0, []) ::
  (22, .ldc2_w 161, 3, 0, 0, 0, .long 3, []) ::
  (25, .invokestatic 76, 3, 131, 3, 0, .null, []) ::
  (28, .ifCond .ne 5, 3, 33, 0, 0, .null, []) ::
  (31, .iconst (-1), 1, 0, 0, 0, .int (-1), []) ::
  (32, .ireturn, 1, 0, 0, 0, .null, []) ::
  (33, .aload_n 0, 1, 0, 0, 0, .null, []) ::
  (34, .getfield 7, 3, 11, 0, 2, .null, []) ::
  (37, .iconst 1, 1, 0, 0, 0, .int 1, []) ::
  (38, .iaload, 1, 0, 0, 0, .null, []) ::
  (39, .istore 5, 2, 0, 0, 0, .null, []) ::
  (41, .aload_n 0, 1, 0, 0, 0, .null, []) ::
  (42, .iload_n 2, 1, 0, 0, 0, .null, []) ::
  (43, .iload_n 3, 1, 0, 0, 0, .null, []) ::
  (44, .iload 4, 2, 0, 0, 0, .null, []) ::
  (46, .iload 5, 2, 0, 0, 0, .null, []) ::
  (48, .invokevirtual 172, 3, 205, 4, 13, .null, []) ::
  (51, .istore 6, 2, 0, 0, 0, .null, []) ::
  (53, .iload 6, 2, 0, 0, 0, .null, []) ::
  (55, .ifCond .ge 6, 3, 61, 0, 0, .null, []) ::
  (58, .iload 6, 2, 0, 0, 0, .null, []) ::
  (60, .ireturn, 1, 0, 0, 0, .null, []) ::
  (61, .iload 5, 2, 0, 0, 0, .null, []) ::
  (63, .ifCond .le 7, 3, 70, 0, 0, .null, []) ::
  (66, .iconst 1, 1, 0, 0, 0, .int 1, []) ::
  (67, .goto 4, 3, 71, 0, 0, .null, []) ::
  (70, .iconst 0, 1, 0, 0, 0, .int 0, []) ::
  (71, .istore 7, 2, 0, 0, 0, .null, []) ::
  (73, .iconst 0, 1, 0, 0, 0, .int 0, []) ::
  (74, .istore 8, 2, 0, 0, 0, .null, []) ::
  (76, .iload 8, 2, 0, 0, 0, .null, [(0, 0)]) ::
  (78, .iload 5, 2, 0, 0, 0, .null, []) ::
  (80, .if_icmp .ge 46, 3, 126, 0, 0, .null, []) ::
  (83, .iload 7, 2, 0, 0, 0, .null, []) ::
  (85, .ifCond .eq 32, 3, 117, 0, 0, .null, []) ::
  (88, .aload_n 0, 1, 0, 0, 0, .null, []) ::
  (89, .getfield 62, 3, 11, 25, 2, .null, []) ::
  (92, .bipush 24, 2, 0, 0, 0, .int 24, []) ::
  (94, .iload_n 2, 1, 0, 0, 0, .null, []) :: am_c_MD_keep_1
def am_c_MD_standing : List am_E := [(0, .iload_n 1, 1, 0, 0, 0, .null, []),
  (1, .i2l, 1, 0, 0, 0, .null, []),
  (2, .lconst 0, 1, 0, 0, 0, .long 0, []),
  (3, .aload_n 0, 1, 0, 0, 0, .null, []),
  (4, .getfield 7, 3, 11, 0, 2, .null, []),
  (7, .iconst 0, 1, 0, 0, 0, .int 0, []),
  (8, .iaload, 1, 0, 0, 0, .null, []),
  (9, .i2l, 1, 0, 0, 0, .null, []),
  (10, .invokestatic 76, 3, 131, 3, 0, .null, []),
  (13, .ifCond .ne 5, 3, 18, 0, 0, .null, []),
  (16, .iconst (-1), 1, 0, 0, 0, .int (-1), []),
  (17, .ireturn, 1, 0, 0, 0, .null, []),
  (18, .iconst 0, 1, 0, 0, 0, .int 0, []),
  (19, .istore_n 2, 1, 0, 0, 0, .null, []),
  (20, .iconst 0, 1, 0, 0, 0, .int 0, []),
  (21, .istore_n 3, 1, 0, 0, 0, .null, []),
  (22, .iload_n 3, 1, 0, 0, 0, .null, [(0, 0)]),
  (23, .aload_n 0, 1, 0, 0, 0, .null, []),
  (24, .invokevirtual 87, 3, 135, 0, 13, .null, []),
  (27, .if_icmp .gt 33, 3, 60, 0, 0, .null, []),
  (30, .iload_n 2, 1, 0, 0, 0, .null, []),
  (31, .iload_n 3, 1, 0, 0, 0, .null, []),
  (32, .invokestatic 73, 3, 134, 1, 0, .null, []),
  (35, .iload_n 1, 1, 0, 0, 0, .null, []),
  (36, .if_icmp .ne 15, 3, 51, 0, 0, .null, []),
  (39, .aload_n 0, 1, 0, 0, 0, .null, []),
  (40, .iload_n 3, 1, 0, 0, 0, .null, []),
  (41, .invokevirtual 95, 3, 138, 1, 13, .null, []),
  (44, .ifCond .eq 7, 3, 51, 0, 0, .null, []),
  (47, .iconst 1, 1, 0, 0, 0, .int 1, []),
  (48, .goto 4, 3, 52, 0, 0, .null, []),
  (51, .iconst 0, 1, 0, 0, 0, .int 0, []),
  (52, .iadd, 1, 0, 0, 0, .null, []),
  (53, .istore_n 2, 1, 0, 0, 0, .null, []),
  (54, .iinc 3 1, 3, 0, 0, 0, .int 1, []),
  (57, .goto (-35), 3, 22, 0, 0, .null, []),
  (60, .iload_n 2, 1, 0, 0, 0, .null, []),
  (61, .ireturn, 1, 0, 0, 0, .null, [])]
def am_c_MD_stands_1 : List am_E := [(91, .imul, 1, 0, 0, 0, .null, []),
  (92, .istore 6, 2, 0, 0, 0, .null, []),
  (94, .iinc 7 1, 3, 0, 0, 0, .int 1, []),
  (97, .goto (-37), 3, 60, 0, 0, .null, []),
  (100, .iload_n 3, 1, 0, 0, 0, .null, []),
  (101, .iload 6, 2, 0, 0, 0, .null, []),
  (103, .iadd, 1, 0, 0, 0, .null, []),
  (104, .istore_n 3, 1, 0, 0, 0, .null, []),
  (105, .iinc 5 1, 3, 0, 0, 0, .int 1, []),
  (108, .goto (-76), 3, 32, 0, 0, .null, []),
  (111, .iconst 0, 1, 0, 0, 0, .int 0, []),
  (112, .istore 5, 2, 0, 0, 0, .null, []),
  (114, .iload 5, 2, 0, 0, 0, .null, [(0, 0)]),
  (116, .aload_n 0, 1, 0, 0, 0, .null, []),
  (117, .getfield 7, 3, 11, 0, 2, .null, []),
  (120, .iconst 0, 1, 0, 0, 0, .int 0, []),
  (121, .iaload, 1, 0, 0, 0, .null, []),
  (122, .if_icmp .ge 16, 3, 138, 0, 0, .null, []),
  (125, .iload 4, 2, 0, 0, 0, .null, []),
  (127, .bipush 10, 2, 0, 0, 0, .int 10, []),
  (129, .imul, 1, 0, 0, 0, .null, []),
  (130, .istore 4, 2, 0, 0, 0, .null, []),
  (132, .iinc 5 1, 3, 0, 0, 0, .int 1, []),
  (135, .goto (-21), 3, 114, 0, 0, .null, []),
  (138, .aload_n 0, 1, 0, 0, 0, .null, []),
  (139, .iload_n 3, 1, 0, 0, 0, .null, []),
  (140, .iload 4, 2, 0, 0, 0, .null, []),
  (142, .invokevirtual 147, 3, 148, 2, 13, .null, []),
  (145, .iload_n 2, 1, 0, 0, 0, .null, []),
  (146, .ifCond .ne 10, 3, 156, 0, 0, .null, []),
  (149, .aload_n 0, 1, 0, 0, 0, .null, []),
  (150, .getfield 113, 3, 11, 1, 0, .null, []),
  (153, .goto 7, 3, 160, 0, 0, .null, []),
  (156, .aload_n 0, 1, 0, 0, 0, .null, []),
  (157, .getfield 116, 3, 11, 2, 0, .null, []),
  (160, .ireturn, 1, 0, 0, 0, .null, [])]
def am_c_MD_stands : List am_E := (0, .iload_n 1, 1, 0, 0, 0, .null, []) ::
  (1, .i2l, 1, 0, 0, 0, .null, []) ::
  (2, .lconst 0, 1, 0, 0, 0, .long 0, []) ::
  (3, .ldc2_w 183, 3, 0, 0, 0, .long 10, []) ::
  (6, .invokestatic 76, 3, 131, 3, 0, .null, []) ::
  (9, .ifCond .eq 13, 3, 22, 0, 0, .null, []) ::
  (12, .iload_n 2, 1, 0, 0, 0, .null, []) ::
  (13, .i2l, 1, 0, 0, 0, .null, []) ::
  (14, .lconst 0, 1, 0, 0, 0, .long 0, []) ::
  (15, .lconst 1, 1, 0, 0, 0, .long 1, []) ::
  (16, .invokestatic 76, 3, 131, 3, 0, .null, []) ::
  (19, .ifCond .ne 5, 3, 24, 0, 0, .null, []) ::
  (22, .iconst (-1), 1, 0, 0, 0, .int (-1), []) ::
  (23, .ireturn, 1, 0, 0, 0, .null, []) ::
  (24, .iconst 0, 1, 0, 0, 0, .int 0, []) ::
  (25, .istore_n 3, 1, 0, 0, 0, .null, []) ::
  (26, .iconst 1, 1, 0, 0, 0, .int 1, []) ::
  (27, .istore 4, 2, 0, 0, 0, .null, []) ::
  (29, .iconst 0, 1, 0, 0, 0, .int 0, []) ::
  (30, .istore 5, 2, 0, 0, 0, .null, []) ::
  (32, .iload 5, 2, 0, 0, 0, .null, [(0, 0)]) ::
  (34, .aload_n 0, 1, 0, 0, 0, .null, []) ::
  (35, .invokevirtual 87, 3, 135, 0, 13, .null, []) ::
  (38, .if_icmp .gt 73, 3, 111, 0, 0, .null, []) ::
  (41, .aload_n 0, 1, 0, 0, 0, .null, []) ::
  (42, .iload 5, 2, 0, 0, 0, .null, []) ::
  (44, .invokevirtual 95, 3, 138, 1, 13, .null, []) ::
  (47, .ifCond .eq 7, 3, 54, 0, 0, .null, []) ::
  (50, .iconst 1, 1, 0, 0, 0, .int 1, []) ::
  (51, .goto 4, 3, 55, 0, 0, .null, []) ::
  (54, .iconst 0, 1, 0, 0, 0, .int 0, []) ::
  (55, .istore 6, 2, 0, 0, 0, .null, []) ::
  (57, .iconst 0, 1, 0, 0, 0, .int 0, []) ::
  (58, .istore 7, 2, 0, 0, 0, .null, []) ::
  (60, .iload 7, 2, 0, 0, 0, .null, [(0, 0)]) ::
  (62, .aload_n 0, 1, 0, 0, 0, .null, []) ::
  (63, .getfield 7, 3, 11, 0, 2, .null, []) ::
  (66, .iconst 0, 1, 0, 0, 0, .int 0, []) ::
  (67, .iaload, 1, 0, 0, 0, .null, []) ::
  (68, .if_icmp .ge 32, 3, 100, 0, 0, .null, []) ::
  (71, .iload 6, 2, 0, 0, 0, .null, []) ::
  (73, .iload 5, 2, 0, 0, 0, .null, []) ::
  (75, .iload 7, 2, 0, 0, 0, .null, []) ::
  (77, .invokestatic 91, 3, 133, 2, 0, .null, []) ::
  (80, .ifCond .eq 10, 3, 90, 0, 0, .null, []) ::
  (83, .bipush 10, 2, 0, 0, 0, .int 10, []) ::
  (85, .iload_n 1, 1, 0, 0, 0, .null, []) ::
  (86, .isub, 1, 0, 0, 0, .null, []) ::
  (87, .goto 4, 3, 91, 0, 0, .null, []) ::
  (90, .iload_n 1, 1, 0, 0, 0, .null, []) :: am_c_MD_stands_1
def am_c_MD_isFree : List am_E := [(0, .aload_n 0, 1, 0, 0, 0, .null, []),
  (1, .iload_n 1, 1, 0, 0, 0, .null, []),
  (2, .invokevirtual 95, 3, 138, 1, 13, .null, []),
  (5, .ifCond .ne 7, 3, 12, 0, 0, .null, []),
  (8, .iconst 1, 1, 0, 0, 0, .int 1, []),
  (9, .goto 4, 3, 13, 0, 0, .null, []),
  (12, .iconst 0, 1, 0, 0, 0, .int 0, []),
  (13, .istore_n 2, 1, 0, 0, 0, .null, []),
  (14, .iconst 0, 1, 0, 0, 0, .int 0, []),
  (15, .istore_n 3, 1, 0, 0, 0, .null, []),
  (16, .iload_n 3, 1, 0, 0, 0, .null, [(0, 0)]),
  (17, .aload_n 0, 1, 0, 0, 0, .null, []),
  (18, .getfield 7, 3, 11, 0, 2, .null, []),
  (21, .iconst 1, 1, 0, 0, 0, .int 1, []),
  (22, .iaload, 1, 0, 0, 0, .null, []),
  (23, .if_icmp .ge 29, 3, 52, 0, 0, .null, []),
  (26, .iload_n 2, 1, 0, 0, 0, .null, []),
  (27, .ifCond .eq 17, 3, 44, 0, 0, .null, []),
  (30, .aload_n 0, 1, 0, 0, 0, .null, []),
  (31, .iload_n 3, 1, 0, 0, 0, .null, []),
  (32, .invokevirtual 69, 3, 136, 1, 13, .null, []),
  (35, .iload_n 1, 1, 0, 0, 0, .null, []),
  (36, .iand, 1, 0, 0, 0, .null, []),
  (37, .ifCond .eq 7, 3, 44, 0, 0, .null, []),
  (40, .iconst 1, 1, 0, 0, 0, .int 1, []),
  (41, .goto 4, 3, 45, 0, 0, .null, []),
  (44, .iconst 0, 1, 0, 0, 0, .int 0, []),
  (45, .istore_n 2, 1, 0, 0, 0, .null, []),
  (46, .iinc 3 1, 3, 0, 0, 0, .int 1, []),
  (49, .goto (-33), 3, 16, 0, 0, .null, []),
  (52, .iload_n 2, 1, 0, 0, 0, .null, []),
  (53, .ireturn, 1, 0, 0, 0, .null, [])]
def am_c_MD_free : List am_E := [(0, .iconst 0, 1, 0, 0, 0, .int 0, []),
  (1, .istore_n 2, 1, 0, 0, 0, .null, []),
  (2, .bipush (-4), 2, 0, 0, 0, .int (-4), []),
  (4, .istore_n 3, 1, 0, 0, 0, .null, []),
  (5, .aload_n 0, 1, 0, 0, 0, .null, []),
  (6, .invokevirtual 87, 3, 135, 0, 13, .null, []),
  (9, .istore 4, 2, 0, 0, 0, .null, []),
  (11, .iload 4, 2, 0, 0, 0, .null, [(0, 0)]),
  (13, .ifCond .lt 42, 3, 55, 0, 0, .null, []),
  (16, .iload_n 2, 1, 0, 0, 0, .null, []),
  (17, .aload_n 0, 1, 0, 0, 0, .null, []),
  (18, .iload 4, 2, 0, 0, 0, .null, []),
  (20, .invokevirtual 185, 3, 168, 1, 13, .null, []),
  (23, .ifCond .eq 7, 3, 30, 0, 0, .null, []),
  (26, .iconst 1, 1, 0, 0, 0, .int 1, []),
  (27, .goto 4, 3, 31, 0, 0, .null, []),
  (30, .iconst 0, 1, 0, 0, 0, .int 0, []),
  (31, .iadd, 1, 0, 0, 0, .null, []),
  (32, .istore_n 2, 1, 0, 0, 0, .null, []),
  (33, .aload_n 0, 1, 0, 0, 0, .null, []),
  (34, .iload 4, 2, 0, 0, 0, .null, []),
  (36, .invokevirtual 185, 3, 168, 1, 13, .null, []),
  (39, .ifCond .eq 8, 3, 47, 0, 0, .null, []),
  (42, .iload 4, 2, 0, 0, 0, .null, []),
  (44, .goto 4, 3, 48, 0, 0, .null, []),
  (47, .iload_n 3, 1, 0, 0, 0, .null, []),
  (48, .istore_n 3, 1, 0, 0, 0, .null, []),
  (49, .iinc 4 (-1), 3, 0, 0, 0, .int (-1), []),
  (52, .goto (-41), 3, 11, 0, 0, .null, []),
  (55, .iload_n 1, 1, 0, 0, 0, .null, []),
  (56, .ifCond .ne 7, 3, 63, 0, 0, .null, []),
  (59, .iload_n 2, 1, 0, 0, 0, .null, []),
  (60, .goto 13, 3, 73, 0, 0, .null, []),
  (63, .iload_n 1, 1, 0, 0, 0, .null, []),
  (64, .iconst 1, 1, 0, 0, 0, .int 1, []),
  (65, .if_icmp .ne 7, 3, 72, 0, 0, .null, []),
  (68, .iload_n 3, 1, 0, 0, 0, .null, []),
  (69, .goto 4, 3, 73, 0, 0, .null, []),
  (72, .iconst (-1), 1, 0, 0, 0, .int (-1), []),
  (73, .ireturn, 1, 0, 0, 0, .null, [])]
def am_c_MD_power : List am_E := [(0, .iconst 1, 1, 0, 0, 0, .int 1, []),
  (1, .istore_n 1, 1, 0, 0, 0, .null, []),
  (2, .iconst 0, 1, 0, 0, 0, .int 0, []),
  (3, .istore_n 2, 1, 0, 0, 0, .null, []),
  (4, .iload_n 2, 1, 0, 0, 0, .null, [(0, 0)]),
  (5, .iload_n 0, 1, 0, 0, 0, .null, []),
  (6, .if_icmp .ge 13, 3, 19, 0, 0, .null, []),
  (9, .iload_n 1, 1, 0, 0, 0, .null, []),
  (10, .iconst 3, 1, 0, 0, 0, .int 3, []),
  (11, .imul, 1, 0, 0, 0, .null, []),
  (12, .istore_n 1, 1, 0, 0, 0, .null, []),
  (13, .iinc 2 1, 3, 0, 0, 0, .int 1, []),
  (16, .goto (-12), 3, 4, 0, 0, .null, []),
  (19, .iload_n 1, 1, 0, 0, 0, .null, []),
  (20, .ireturn, 1, 0, 0, 0, .null, [])]
def am_c_MD_digit : List am_E := [(0, .iload_n 0, 1, 0, 0, 0, .null, []),
  (1, .iload_n 1, 1, 0, 0, 0, .null, []),
  (2, .invokestatic 188, 3, 170, 1, 0, .null, []),
  (5, .idiv, 1, 0, 0, 0, .null, []),
  (6, .iconst 3, 1, 0, 0, 0, .int 3, []),
  (7, .irem, 1, 0, 0, 0, .null, []),
  (8, .ireturn, 1, 0, 0, 0, .null, [])]
def am_c_MD_those : List am_E := [(0, .iconst 0, 1, 0, 0, 0, .int 0, []),
  (1, .istore_n 3, 1, 0, 0, 0, .null, []),
  (2, .iconst 0, 1, 0, 0, 0, .int 0, []),
  (3, .istore 4, 2, 0, 0, 0, .null, []),
  (5, .iload 4, 2, 0, 0, 0, .null, [(0, 0)]),
  (7, .aload_n 0, 1, 0, 0, 0, .null, []),
  (8, .getfield 7, 3, 11, 0, 2, .null, []),
  (11, .iconst 0, 1, 0, 0, 0, .int 0, []),
  (12, .iaload, 1, 0, 0, 0, .null, []),
  (13, .if_icmp .ge 30, 3, 43, 0, 0, .null, []),
  (16, .iload_n 3, 1, 0, 0, 0, .null, []),
  (17, .iload_n 1, 1, 0, 0, 0, .null, []),
  (18, .iload 4, 2, 0, 0, 0, .null, []),
  (20, .invokestatic 191, 3, 171, 2, 0, .null, []),
  (23, .iload_n 2, 1, 0, 0, 0, .null, []),
  (24, .if_icmp .ne 10, 3, 34, 0, 0, .null, []),
  (27, .iconst 1, 1, 0, 0, 0, .int 1, []),
  (28, .iload 4, 2, 0, 0, 0, .null, []),
  (30, .ishl, 1, 0, 0, 0, .null, []),
  (31, .goto 4, 3, 35, 0, 0, .null, []),
  (34, .iconst 0, 1, 0, 0, 0, .int 0, []),
  (35, .ior, 1, 0, 0, 0, .null, []),
  (36, .istore_n 3, 1, 0, 0, 0, .null, []),
  (37, .iinc 4 1, 3, 0, 0, 0, .int 1, []),
  (40, .goto (-35), 3, 5, 0, 0, .null, []),
  (43, .iload_n 3, 1, 0, 0, 0, .null, []),
  (44, .ireturn, 1, 0, 0, 0, .null, [])]
def am_c_MD_probesOf_1 : List am_E := [(82, .iaload, 1, 0, 0, 0, .null, []),
  (83, .istore 4, 2, 0, 0, 0, .null, []),
  (85, .aload_n 0, 1, 0, 0, 0, .null, []),
  (86, .getfield 28, 3, 11, 8, 2, .null, []),
  (89, .iload_n 1, 1, 0, 0, 0, .null, []),
  (90, .iconst 2, 1, 0, 0, 0, .int 2, []),
  (91, .iload_n 3, 1, 0, 0, 0, .null, []),
  (92, .invokestatic 188, 3, 170, 1, 0, .null, []),
  (95, .imul, 1, 0, 0, 0, .null, []),
  (96, .iadd, 1, 0, 0, 0, .null, []),
  (97, .iaload, 1, 0, 0, 0, .null, []),
  (98, .istore 5, 2, 0, 0, 0, .null, []),
  (100, .iconst 1, 1, 0, 0, 0, .int 1, []),
  (101, .iload 4, 2, 0, 0, 0, .null, []),
  (103, .iload 5, 2, 0, 0, 0, .null, []),
  (105, .if_icmp .le 8, 3, 113, 0, 0, .null, []),
  (108, .iload 4, 2, 0, 0, 0, .null, []),
  (110, .goto 5, 3, 115, 0, 0, .null, []),
  (113, .iload 5, 2, 0, 0, 0, .null, []),
  (115, .iadd, 1, 0, 0, 0, .null, []),
  (116, .istore 6, 2, 0, 0, 0, .null, []),
  (118, .aload_n 0, 1, 0, 0, 0, .null, []),
  (119, .getfield 31, 3, 11, 9, 2, .null, []),
  (122, .iload_n 1, 1, 0, 0, 0, .null, []),
  (123, .iload 6, 2, 0, 0, 0, .null, []),
  (125, .iload_n 2, 1, 0, 0, 0, .null, []),
  (126, .if_icmp .ge 7, 3, 133, 0, 0, .null, []),
  (129, .iload_n 3, 1, 0, 0, 0, .null, []),
  (130, .goto 9, 3, 139, 0, 0, .null, []),
  (133, .aload_n 0, 1, 0, 0, 0, .null, []),
  (134, .getfield 31, 3, 11, 9, 2, .null, []),
  (137, .iload_n 1, 1, 0, 0, 0, .null, []),
  (138, .iaload, 1, 0, 0, 0, .null, []),
  (139, .iastore, 1, 0, 0, 0, .null, []),
  (140, .iload 6, 2, 0, 0, 0, .null, []),
  (142, .iload_n 2, 1, 0, 0, 0, .null, []),
  (143, .if_icmp .ge 8, 3, 151, 0, 0, .null, []),
  (146, .iload 6, 2, 0, 0, 0, .null, []),
  (148, .goto 4, 3, 152, 0, 0, .null, []),
  (151, .iload_n 2, 1, 0, 0, 0, .null, []),
  (152, .istore_n 2, 1, 0, 0, 0, .null, []),
  (153, .iinc 3 1, 3, 0, 0, 0, .int 1, []),
  (156, .goto (-102), 3, 54, 0, 0, .null, []),
  (159, .aload_n 0, 1, 0, 0, 0, .null, []),
  (160, .getfield 28, 3, 11, 8, 2, .null, []),
  (163, .iload_n 1, 1, 0, 0, 0, .null, []),
  (164, .iload_n 2, 1, 0, 0, 0, .null, []),
  (165, .iastore, 1, 0, 0, 0, .null, []),
  (166, .return_, 1, 0, 0, 0, .null, [])]
def am_c_MD_probesOf : List am_E := (0, .aload_n 0, 1, 0, 0, 0, .null, []) ::
  (1, .getfield 28, 3, 11, 8, 2, .null, []) ::
  (4, .iload_n 1, 1, 0, 0, 0, .null, []) ::
  (5, .iconst 0, 1, 0, 0, 0, .int 0, []) ::
  (6, .iastore, 1, 0, 0, 0, .null, []) ::
  (7, .aload_n 0, 1, 0, 0, 0, .null, []) ::
  (8, .getfield 31, 3, 11, 9, 2, .null, []) ::
  (11, .iload_n 1, 1, 0, 0, 0, .null, []) ::
  (12, .bipush (-4), 2, 0, 0, 0, .int (-4), []) ::
  (14, .iastore, 1, 0, 0, 0, .null, []) ::
  (15, .aload_n 0, 1, 0, 0, 0, .null, []) ::
  (16, .aload_n 0, 1, 0, 0, 0, .null, []) ::
  (17, .iload_n 1, 1, 0, 0, 0, .null, []) ::
  (18, .iconst 1, 1, 0, 0, 0, .int 1, []) ::
  (19, .invokevirtual 194, 3, 172, 2, 13, .null, []) ::
  (22, .invokevirtual 95, 3, 138, 1, 13, .null, []) ::
  (25, .ifCond .ne 23, 3, 48, 0, 0, .null, []) ::
  (28, .aload_n 0, 1, 0, 0, 0, .null, []) ::
  (29, .aload_n 0, 1, 0, 0, 0, .null, []) ::
  (30, .invokevirtual 87, 3, 135, 0, 13, .null, []) ::
  (33, .aload_n 0, 1, 0, 0, 0, .null, []) ::
  (34, .iload_n 1, 1, 0, 0, 0, .null, []) ::
  (35, .iconst 2, 1, 0, 0, 0, .int 2, []) ::
  (36, .invokevirtual 194, 3, 172, 2, 13, .null, []) ::
  (39, .iconst (-1), 1, 0, 0, 0, .int (-1), []) ::
  (40, .ixor, 1, 0, 0, 0, .null, []) ::
  (41, .iand, 1, 0, 0, 0, .null, []) ::
  (42, .invokevirtual 95, 3, 138, 1, 13, .null, []) ::
  (45, .ifCond .ne 4, 3, 49, 0, 0, .null, []) ::
  (48, .return_, 1, 0, 0, 0, .null, []) ::
  (49, .bipush 99, 2, 0, 0, 0, .int 99, []) ::
  (51, .istore_n 2, 1, 0, 0, 0, .null, []) ::
  (52, .iconst 0, 1, 0, 0, 0, .int 0, []) ::
  (53, .istore_n 3, 1, 0, 0, 0, .null, []) ::
  (54, .iload_n 3, 1, 0, 0, 0, .null, [(0, 0)]) ::
  (55, .aload_n 0, 1, 0, 0, 0, .null, []) ::
  (56, .getfield 7, 3, 11, 0, 2, .null, []) ::
  (59, .iconst 0, 1, 0, 0, 0, .int 0, []) ::
  (60, .iaload, 1, 0, 0, 0, .null, []) ::
  (61, .if_icmp .ge 98, 3, 159, 0, 0, .null, []) ::
  (64, .iload_n 1, 1, 0, 0, 0, .null, []) ::
  (65, .iload_n 3, 1, 0, 0, 0, .null, []) ::
  (66, .invokestatic 191, 3, 171, 2, 0, .null, []) ::
  (69, .ifCond .ne 84, 3, 153, 0, 0, .null, []) ::
  (72, .aload_n 0, 1, 0, 0, 0, .null, []) ::
  (73, .getfield 28, 3, 11, 8, 2, .null, []) ::
  (76, .iload_n 1, 1, 0, 0, 0, .null, []) ::
  (77, .iload_n 3, 1, 0, 0, 0, .null, []) ::
  (78, .invokestatic 188, 3, 170, 1, 0, .null, []) ::
  (81, .iadd, 1, 0, 0, 0, .null, []) :: am_c_MD_probesOf_1
def am_c_MD_probe_1 : List am_E := [(91, .iconst 2, 1, 0, 0, 0, .int 2, []),
  (92, .iload 5, 2, 0, 0, 0, .null, []),
  (94, .invokestatic 188, 3, 170, 1, 0, .null, []),
  (97, .imul, 1, 0, 0, 0, .null, []),
  (98, .goto 4, 3, 102, 0, 0, .null, []),
  (101, .iconst 0, 1, 0, 0, 0, .int 0, []),
  (102, .iadd, 1, 0, 0, 0, .null, []),
  (103, .istore 4, 2, 0, 0, 0, .null, []),
  (105, .iinc 5 1, 3, 0, 0, 0, .int 1, []),
  (108, .goto (-56), 3, 52, 0, 0, .null, []),
  (111, .aload_n 0, 1, 0, 0, 0, .null, []),
  (112, .getfield 7, 3, 11, 0, 2, .null, []),
  (115, .iconst 0, 1, 0, 0, 0, .int 0, []),
  (116, .iaload, 1, 0, 0, 0, .null, []),
  (117, .invokestatic 188, 3, 170, 1, 0, .null, []),
  (120, .iconst 1, 1, 0, 0, 0, .int 1, []),
  (121, .isub, 1, 0, 0, 0, .null, []),
  (122, .istore 5, 2, 0, 0, 0, .null, []),
  (124, .iload 5, 2, 0, 0, 0, .null, [(0, 0)]),
  (126, .iload 4, 2, 0, 0, 0, .null, []),
  (128, .if_icmp .lt 15, 3, 143, 0, 0, .null, []),
  (131, .aload_n 0, 1, 0, 0, 0, .null, []),
  (132, .iload 5, 2, 0, 0, 0, .null, []),
  (134, .invokevirtual 197, 3, 173, 1, 13, .null, []),
  (137, .iinc 5 (-1), 3, 0, 0, 0, .int (-1), []),
  (140, .goto (-16), 3, 124, 0, 0, .null, []),
  (143, .iload_n 3, 1, 0, 0, 0, .null, []),
  (144, .ifCond .ne 13, 3, 157, 0, 0, .null, []),
  (147, .aload_n 0, 1, 0, 0, 0, .null, []),
  (148, .getfield 28, 3, 11, 8, 2, .null, []),
  (151, .iload 4, 2, 0, 0, 0, .null, []),
  (153, .iaload, 1, 0, 0, 0, .null, []),
  (154, .goto 10, 3, 164, 0, 0, .null, []),
  (157, .aload_n 0, 1, 0, 0, 0, .null, []),
  (158, .getfield 31, 3, 11, 9, 2, .null, []),
  (161, .iload 4, 2, 0, 0, 0, .null, []),
  (163, .iaload, 1, 0, 0, 0, .null, []),
  (164, .ireturn, 1, 0, 0, 0, .null, [])]
def am_c_MD_probe : List am_E := (0, .iload_n 1, 1, 0, 0, 0, .null, []) ::
  (1, .i2l, 1, 0, 0, 0, .null, []) ::
  (2, .lconst 0, 1, 0, 0, 0, .long 0, []) ::
  (3, .aload_n 0, 1, 0, 0, 0, .null, []) ::
  (4, .invokevirtual 87, 3, 135, 0, 13, .null, []) ::
  (7, .i2l, 1, 0, 0, 0, .null, []) ::
  (8, .invokestatic 76, 3, 131, 3, 0, .null, []) ::
  (11, .ifCond .eq 33, 3, 44, 0, 0, .null, []) ::
  (14, .iload_n 2, 1, 0, 0, 0, .null, []) ::
  (15, .i2l, 1, 0, 0, 0, .null, []) ::
  (16, .lconst 0, 1, 0, 0, 0, .long 0, []) ::
  (17, .aload_n 0, 1, 0, 0, 0, .null, []) ::
  (18, .invokevirtual 87, 3, 135, 0, 13, .null, []) ::
  (21, .i2l, 1, 0, 0, 0, .null, []) ::
  (22, .invokestatic 76, 3, 131, 3, 0, .null, []) ::
  (25, .ifCond .eq 19, 3, 44, 0, 0, .null, []) ::
  (28, .iload_n 1, 1, 0, 0, 0, .null, []) ::
  (29, .iload_n 2, 1, 0, 0, 0, .null, []) ::
  (30, .iand, 1, 0, 0, 0, .null, []) ::
  (31, .ifCond .ne 13, 3, 44, 0, 0, .null, []) ::
  (34, .iload_n 3, 1, 0, 0, 0, .null, []) ::
  (35, .i2l, 1, 0, 0, 0, .null, []) ::
  (36, .lconst 0, 1, 0, 0, 0, .long 0, []) ::
  (37, .lconst 1, 1, 0, 0, 0, .long 1, []) ::
  (38, .invokestatic 76, 3, 131, 3, 0, .null, []) ::
  (41, .ifCond .ne 5, 3, 46, 0, 0, .null, []) ::
  (44, .iconst (-1), 1, 0, 0, 0, .int (-1), []) ::
  (45, .ireturn, 1, 0, 0, 0, .null, []) ::
  (46, .iconst 0, 1, 0, 0, 0, .int 0, []) ::
  (47, .istore 4, 2, 0, 0, 0, .null, []) ::
  (49, .iconst 0, 1, 0, 0, 0, .int 0, []) ::
  (50, .istore 5, 2, 0, 0, 0, .null, []) ::
  (52, .iload 5, 2, 0, 0, 0, .null, [(0, 0)]) ::
  (54, .aload_n 0, 1, 0, 0, 0, .null, []) ::
  (55, .getfield 7, 3, 11, 0, 2, .null, []) ::
  (58, .iconst 0, 1, 0, 0, 0, .int 0, []) ::
  (59, .iaload, 1, 0, 0, 0, .null, []) ::
  (60, .if_icmp .ge 51, 3, 111, 0, 0, .null, []) ::
  (63, .iload 4, 2, 0, 0, 0, .null, []) ::
  (65, .iload_n 1, 1, 0, 0, 0, .null, []) ::
  (66, .iload 5, 2, 0, 0, 0, .null, []) ::
  (68, .invokestatic 91, 3, 133, 2, 0, .null, []) ::
  (71, .ifCond .eq 11, 3, 82, 0, 0, .null, []) ::
  (74, .iload 5, 2, 0, 0, 0, .null, []) ::
  (76, .invokestatic 188, 3, 170, 1, 0, .null, []) ::
  (79, .goto 23, 3, 102, 0, 0, .null, []) ::
  (82, .iload_n 2, 1, 0, 0, 0, .null, []) ::
  (83, .iload 5, 2, 0, 0, 0, .null, []) ::
  (85, .invokestatic 91, 3, 133, 2, 0, .null, []) ::
  (88, .ifCond .eq 13, 3, 101, 0, 0, .null, []) :: am_c_MD_probe_1
def am_c_MD_add : List am_E := [(0, .iload_n 1, 1, 0, 0, 0, .null, []),
  (1, .i2l, 1, 0, 0, 0, .null, []),
  (2, .lconst 1, 1, 0, 0, 0, .long 1, []),
  (3, .aload_n 0, 1, 0, 0, 0, .null, []),
  (4, .invokevirtual 87, 3, 135, 0, 13, .null, []),
  (7, .i2l, 1, 0, 0, 0, .null, []),
  (8, .invokestatic 76, 3, 131, 3, 0, .null, []),
  (11, .ifCond .ne 5, 3, 16, 0, 0, .null, []),
  (14, .iconst (-1), 1, 0, 0, 0, .int (-1), []),
  (15, .ireturn, 1, 0, 0, 0, .null, []),
  (16, .aload_n 0, 1, 0, 0, 0, .null, []),
  (17, .iload_n 1, 1, 0, 0, 0, .null, []),
  (18, .invokevirtual 200, 3, 137, 1, 13, .null, []),
  (21, .ifCond .lt 6, 3, 27, 0, 0, .null, []),
  (24, .bipush (-2), 2, 0, 0, 0, .int (-2), []),
  (26, .ireturn, 1, 0, 0, 0, .null, []),
  (27, .aload_n 0, 1, 0, 0, 0, .null, []),
  (28, .getfield 7, 3, 11, 0, 2, .null, []),
  (31, .iconst 1, 1, 0, 0, 0, .int 1, []),
  (32, .iaload, 1, 0, 0, 0, .null, []),
  (33, .bipush 12, 2, 0, 0, 0, .int 12, []),
  (35, .if_icmp .ne 6, 3, 41, 0, 0, .null, []),
  (38, .bipush (-3), 2, 0, 0, 0, .int (-3), []),
  (40, .ireturn, 1, 0, 0, 0, .null, []),
  (41, .aload_n 0, 1, 0, 0, 0, .null, []),
  (42, .invokevirtual 176, 3, 197, 0, 13, .null, []),
  (45, .aload_n 0, 1, 0, 0, 0, .null, []),
  (46, .iload_n 1, 1, 0, 0, 0, .null, []),
  (47, .invokevirtual 203, 3, 176, 1, 13, .null, []),
  (50, .aload_n 0, 1, 0, 0, 0, .null, []),
  (51, .getfield 7, 3, 11, 0, 2, .null, []),
  (54, .iconst 1, 1, 0, 0, 0, .int 1, []),
  (55, .iaload, 1, 0, 0, 0, .null, []),
  (56, .ireturn, 1, 0, 0, 0, .null, [])]
def am_c_MD_comes : List am_E := [(0, .aload_n 0, 1, 0, 0, 0, .null, []),
  (1, .getfield 7, 3, 11, 0, 2, .null, []),
  (4, .iconst 4, 1, 0, 0, 0, .int 4, []),
  (5, .aload_n 0, 1, 0, 0, 0, .null, []),
  (6, .getfield 7, 3, 11, 0, 2, .null, []),
  (9, .iconst 1, 1, 0, 0, 0, .int 1, []),
  (10, .iaload, 1, 0, 0, 0, .null, []),
  (11, .iadd, 1, 0, 0, 0, .null, []),
  (12, .iload_n 1, 1, 0, 0, 0, .null, []),
  (13, .iastore, 1, 0, 0, 0, .null, []),
  (14, .aload_n 0, 1, 0, 0, 0, .null, []),
  (15, .getfield 7, 3, 11, 0, 2, .null, []),
  (18, .iconst 1, 1, 0, 0, 0, .int 1, []),
  (19, .dup2, 1, 0, 0, 0, .null, []),
  (20, .iaload, 1, 0, 0, 0, .null, []),
  (21, .iconst 1, 1, 0, 0, 0, .int 1, []),
  (22, .iadd, 1, 0, 0, 0, .null, []),
  (23, .iastore, 1, 0, 0, 0, .null, []),
  (24, .return_, 1, 0, 0, 0, .null, [])]
def am_c_MD_goes : List am_E := [(0, .aload_n 0, 1, 0, 0, 0, .null, []),
  (1, .getfield 7, 3, 11, 0, 2, .null, []),
  (4, .iconst 1, 1, 0, 0, 0, .int 1, []),
  (5, .dup2, 1, 0, 0, 0, .null, []),
  (6, .iaload, 1, 0, 0, 0, .null, []),
  (7, .iconst 1, 1, 0, 0, 0, .int 1, []),
  (8, .isub, 1, 0, 0, 0, .null, []),
  (9, .iastore, 1, 0, 0, 0, .null, []),
  (10, .iload_n 1, 1, 0, 0, 0, .null, []),
  (11, .istore_n 2, 1, 0, 0, 0, .null, []),
  (12, .iload_n 2, 1, 0, 0, 0, .null, [(0, 0)]),
  (13, .aload_n 0, 1, 0, 0, 0, .null, []),
  (14, .getfield 7, 3, 11, 0, 2, .null, []),
  (17, .iconst 1, 1, 0, 0, 0, .int 1, []),
  (18, .iaload, 1, 0, 0, 0, .null, []),
  (19, .if_icmp .ge 27, 3, 46, 0, 0, .null, []),
  (22, .aload_n 0, 1, 0, 0, 0, .null, []),
  (23, .getfield 7, 3, 11, 0, 2, .null, []),
  (26, .iconst 4, 1, 0, 0, 0, .int 4, []),
  (27, .iload_n 2, 1, 0, 0, 0, .null, []),
  (28, .iadd, 1, 0, 0, 0, .null, []),
  (29, .aload_n 0, 1, 0, 0, 0, .null, []),
  (30, .getfield 7, 3, 11, 0, 2, .null, []),
  (33, .iconst 4, 1, 0, 0, 0, .int 4, []),
  (34, .iload_n 2, 1, 0, 0, 0, .null, []),
  (35, .iadd, 1, 0, 0, 0, .null, []),
  (36, .iconst 1, 1, 0, 0, 0, .int 1, []),
  (37, .iadd, 1, 0, 0, 0, .null, []),
  (38, .iaload, 1, 0, 0, 0, .null, []),
  (39, .iastore, 1, 0, 0, 0, .null, []),
  (40, .iinc 2 1, 3, 0, 0, 0, .int 1, []),
  (43, .goto (-31), 3, 12, 0, 0, .null, []),
  (46, .return_, 1, 0, 0, 0, .null, [])]
def am_c_MD_out : List am_E := [(0, .iload_n 1, 1, 0, 0, 0, .null, []),
  (1, .i2l, 1, 0, 0, 0, .null, []),
  (2, .lconst 1, 1, 0, 0, 0, .long 1, []),
  (3, .aload_n 0, 1, 0, 0, 0, .null, []),
  (4, .invokevirtual 87, 3, 135, 0, 13, .null, []),
  (7, .i2l, 1, 0, 0, 0, .null, []),
  (8, .invokestatic 76, 3, 131, 3, 0, .null, []),
  (11, .ifCond .ne 5, 3, 16, 0, 0, .null, []),
  (14, .iconst (-1), 1, 0, 0, 0, .int (-1), []),
  (15, .ireturn, 1, 0, 0, 0, .null, []),
  (16, .aload_n 0, 1, 0, 0, 0, .null, []),
  (17, .iload_n 1, 1, 0, 0, 0, .null, []),
  (18, .invokevirtual 200, 3, 137, 1, 13, .null, []),
  (21, .istore_n 2, 1, 0, 0, 0, .null, []),
  (22, .iload_n 2, 1, 0, 0, 0, .null, []),
  (23, .ifCond .ge 6, 3, 29, 0, 0, .null, []),
  (26, .bipush (-4), 2, 0, 0, 0, .int (-4), []),
  (28, .ireturn, 1, 0, 0, 0, .null, []),
  (29, .aload_n 0, 1, 0, 0, 0, .null, []),
  (30, .invokevirtual 176, 3, 197, 0, 13, .null, []),
  (33, .aload_n 0, 1, 0, 0, 0, .null, []),
  (34, .iload_n 2, 1, 0, 0, 0, .null, []),
  (35, .invokevirtual 206, 3, 177, 1, 13, .null, []),
  (38, .aload_n 0, 1, 0, 0, 0, .null, []),
  (39, .getfield 7, 3, 11, 0, 2, .null, []),
  (42, .iconst 1, 1, 0, 0, 0, .int 1, []),
  (43, .iaload, 1, 0, 0, 0, .null, []),
  (44, .ireturn, 1, 0, 0, 0, .null, [])]
def am_c_MD_size : List am_E := [(0, .iload_n 1, 1, 0, 0, 0, .null, []),
  (1, .i2l, 1, 0, 0, 0, .null, []),
  (2, .lconst 1, 1, 0, 0, 0, .long 1, []),
  (3, .ldc2_w 209, 3, 0, 0, 0, .long 7, []),
  (6, .invokestatic 76, 3, 131, 3, 0, .null, []),
  (9, .ifCond .ne 5, 3, 14, 0, 0, .null, []),
  (12, .iconst (-1), 1, 0, 0, 0, .int (-1), []),
  (13, .ireturn, 1, 0, 0, 0, .null, []),
  (14, .aload_n 0, 1, 0, 0, 0, .null, []),
  (15, .getfield 7, 3, 11, 0, 2, .null, []),
  (18, .iconst 0, 1, 0, 0, 0, .int 0, []),
  (19, .iaload, 1, 0, 0, 0, .null, []),
  (20, .istore_n 2, 1, 0, 0, 0, .null, []),
  (21, .iconst 0, 1, 0, 0, 0, .int 0, []),
  (22, .istore_n 3, 1, 0, 0, 0, .null, []),
  (23, .iconst 0, 1, 0, 0, 0, .int 0, []),
  (24, .istore 4, 2, 0, 0, 0, .null, []),
  (26, .iload 4, 2, 0, 0, 0, .null, [(0, 0)]),
  (28, .aload_n 0, 1, 0, 0, 0, .null, []),
  (29, .getfield 7, 3, 11, 0, 2, .null, []),
  (32, .iconst 1, 1, 0, 0, 0, .int 1, []),
  (33, .iaload, 1, 0, 0, 0, .null, []),
  (34, .if_icmp .ge 18, 3, 52, 0, 0, .null, []),
  (37, .iload_n 3, 1, 0, 0, 0, .null, []),
  (38, .aload_n 0, 1, 0, 0, 0, .null, []),
  (39, .iload 4, 2, 0, 0, 0, .null, []),
  (41, .invokevirtual 69, 3, 136, 1, 13, .null, []),
  (44, .ior, 1, 0, 0, 0, .null, []),
  (45, .istore_n 3, 1, 0, 0, 0, .null, []),
  (46, .iinc 4 1, 3, 0, 0, 0, .int 1, []),
  (49, .goto (-23), 3, 26, 0, 0, .null, []),
  (52, .iload_n 1, 1, 0, 0, 0, .null, []),
  (53, .iload_n 2, 1, 0, 0, 0, .null, []),
  (54, .if_icmp .eq 10, 3, 64, 0, 0, .null, []),
  (57, .iload_n 3, 1, 0, 0, 0, .null, []),
  (58, .iconst 1, 1, 0, 0, 0, .int 1, []),
  (59, .iload_n 1, 1, 0, 0, 0, .null, []),
  (60, .ishl, 1, 0, 0, 0, .null, []),
  (61, .if_icmp .lt 6, 3, 67, 0, 0, .null, []),
  (64, .bipush (-2), 2, 0, 0, 0, .int (-2), []),
  (66, .ireturn, 1, 0, 0, 0, .null, []),
  (67, .aload_n 0, 1, 0, 0, 0, .null, []),
  (68, .invokevirtual 176, 3, 197, 0, 13, .null, []),
  (71, .aload_n 0, 1, 0, 0, 0, .null, []),
  (72, .getfield 7, 3, 11, 0, 2, .null, []),
  (75, .iconst 0, 1, 0, 0, 0, .int 0, []),
  (76, .iload_n 1, 1, 0, 0, 0, .null, []),
  (77, .iastore, 1, 0, 0, 0, .null, []),
  (78, .iload_n 2, 1, 0, 0, 0, .null, []),
  (79, .ireturn, 1, 0, 0, 0, .null, [])]
def am_c_MD_drift_1 : List am_E := [(82, .iload 6, 2, 0, 0, 0, .null, []),
  (84, .invokevirtual 206, 3, 177, 1, 13, .null, []),
  (87, .goto 20, 3, 107, 0, 0, .null, []),
  (90, .aload_n 0, 1, 0, 0, 0, .null, []),
  (91, .getfield 7, 3, 11, 0, 2, .null, []),
  (94, .iconst 1, 1, 0, 0, 0, .int 1, []),
  (95, .iaload, 1, 0, 0, 0, .null, []),
  (96, .bipush 12, 2, 0, 0, 0, .int 12, []),
  (98, .if_icmp .ge 9, 3, 107, 0, 0, .null, []),
  (101, .aload_n 0, 1, 0, 0, 0, .null, []),
  (102, .iload 5, 2, 0, 0, 0, .null, []),
  (104, .invokevirtual 203, 3, 176, 1, 13, .null, []),
  (107, .iinc 2 1, 3, 0, 0, 0, .int 1, []),
  (110, .goto (-94), 3, 16, 0, 0, .null, []),
  (113, .aload_n 0, 1, 0, 0, 0, .null, []),
  (114, .getfield 7, 3, 11, 0, 2, .null, []),
  (117, .iconst 1, 1, 0, 0, 0, .int 1, []),
  (118, .iaload, 1, 0, 0, 0, .null, []),
  (119, .ireturn, 1, 0, 0, 0, .null, [])]
def am_c_MD_drift : List am_E := (0, .iload_n 1, 1, 0, 0, 0, .null, []) ::
  (1, .i2l, 1, 0, 0, 0, .null, []) ::
  (2, .lconst 1, 1, 0, 0, 0, .long 1, []) ::
  (3, .ldc2_w 211, 3, 0, 0, 0, .long 40, []) ::
  (6, .invokestatic 76, 3, 131, 3, 0, .null, []) ::
  (9, .ifCond .ne 5, 3, 14, 0, 0, .null, []) ::
  (12, .iconst (-1), 1, 0, 0, 0, .int (-1), []) ::
  (13, .ireturn, 1, 0, 0, 0, .null, []) ::
  (14, .iconst 0, 1, 0, 0, 0, .int 0, []) ::
  (15, .istore_n 2, 1, 0, 0, 0, .null, []) ::
  (16, .iload_n 2, 1, 0, 0, 0, .null, [(0, 0)]) ::
  (17, .iload_n 1, 1, 0, 0, 0, .null, []) ::
  (18, .if_icmp .ge 95, 3, 113, 0, 0, .null, []) ::
  (21, .aload_n 0, 1, 0, 0, 0, .null, []) ::
  (22, .invokevirtual 176, 3, 197, 0, 13, .null, []) ::
  (25, .aload_n 0, 1, 0, 0, 0, .null, []) ::
  (26, .getfield 7, 3, 11, 0, 2, .null, []) ::
  (29, .iconst 2, 1, 0, 0, 0, .int 2, []) ::
  (30, .iaload, 1, 0, 0, 0, .null, []) ::
  (31, .i2l, 1, 0, 0, 0, .null, []) ::
  (32, .ldc2_w 213, 3, 0, 0, 0, .long 1103515245, []) ::
  (35, .lmul, 1, 0, 0, 0, .null, []) ::
  (36, .ldc2_w 215, 3, 0, 0, 0, .long 12345, []) ::
  (39, .ladd, 1, 0, 0, 0, .null, []) ::
  (40, .ldc2_w 217, 3, 0, 0, 0, .long 2147483648, []) ::
  (43, .lrem, 1, 0, 0, 0, .null, []) ::
  (44, .lstore_n 3, 1, 0, 0, 0, .null, []) ::
  (45, .aload_n 0, 1, 0, 0, 0, .null, []) ::
  (46, .getfield 7, 3, 11, 0, 2, .null, []) ::
  (49, .iconst 2, 1, 0, 0, 0, .int 2, []) ::
  (50, .lload_n 3, 1, 0, 0, 0, .null, []) ::
  (51, .l2i, 1, 0, 0, 0, .null, []) ::
  (52, .iastore, 1, 0, 0, 0, .null, []) ::
  (53, .lload_n 3, 1, 0, 0, 0, .null, []) ::
  (54, .ldc2_w 219, 3, 0, 0, 0, .long 65536, []) ::
  (57, .ldiv, 1, 0, 0, 0, .null, []) ::
  (58, .l2i, 1, 0, 0, 0, .null, []) ::
  (59, .aload_n 0, 1, 0, 0, 0, .null, []) ::
  (60, .invokevirtual 87, 3, 135, 0, 13, .null, []) ::
  (63, .irem, 1, 0, 0, 0, .null, []) ::
  (64, .iconst 1, 1, 0, 0, 0, .int 1, []) ::
  (65, .iadd, 1, 0, 0, 0, .null, []) ::
  (66, .istore 5, 2, 0, 0, 0, .null, []) ::
  (68, .aload_n 0, 1, 0, 0, 0, .null, []) ::
  (69, .iload 5, 2, 0, 0, 0, .null, []) ::
  (71, .invokevirtual 200, 3, 137, 1, 13, .null, []) ::
  (74, .istore 6, 2, 0, 0, 0, .null, []) ::
  (76, .iload 6, 2, 0, 0, 0, .null, []) ::
  (78, .ifCond .lt 12, 3, 90, 0, 0, .null, []) ::
  (81, .aload_n 0, 1, 0, 0, 0, .null, []) :: am_c_MD_drift_1
def am_c_MD_seed : List am_E := [(0, .iload_n 1, 1, 0, 0, 0, .null, []),
  (1, .ifCond .ge 5, 3, 6, 0, 0, .null, []),
  (4, .iconst (-1), 1, 0, 0, 0, .int (-1), []),
  (5, .ireturn, 1, 0, 0, 0, .null, []),
  (6, .aload_n 0, 1, 0, 0, 0, .null, []),
  (7, .getfield 7, 3, 11, 0, 2, .null, []),
  (10, .iconst 2, 1, 0, 0, 0, .int 2, []),
  (11, .iaload, 1, 0, 0, 0, .null, []),
  (12, .istore_n 2, 1, 0, 0, 0, .null, []),
  (13, .aload_n 0, 1, 0, 0, 0, .null, []),
  (14, .getfield 7, 3, 11, 0, 2, .null, []),
  (17, .iconst 2, 1, 0, 0, 0, .int 2, []),
  (18, .iload_n 1, 1, 0, 0, 0, .null, []),
  (19, .iastore, 1, 0, 0, 0, .null, []),
  (20, .iload_n 2, 1, 0, 0, 0, .null, []),
  (21, .ireturn, 1, 0, 0, 0, .null, [])]
def am_c_MD_type : List am_E := [(0, .iload_n 1, 1, 0, 0, 0, .null, []),
  (1, .i2l, 1, 0, 0, 0, .null, []),
  (2, .ldc2_w 221, 3, 0, 0, 0, .long 32, []),
  (5, .ldc2_w 223, 3, 0, 0, 0, .long 126, []),
  (8, .invokestatic 76, 3, 131, 3, 0, .null, []),
  (11, .ifCond .ne 5, 3, 16, 0, 0, .null, []),
  (14, .iconst (-1), 1, 0, 0, 0, .int (-1), []),
  (15, .ireturn, 1, 0, 0, 0, .null, []),
  (16, .aload_n 0, 1, 0, 0, 0, .null, []),
  (17, .getfield 225, 3, 11, 11, 0, .null, []),
  (20, .bipush 90, 2, 0, 0, 0, .int 90, []),
  (22, .if_icmp .ne 6, 3, 28, 0, 0, .null, []),
  (25, .bipush (-3), 2, 0, 0, 0, .int (-3), []),
  (27, .ireturn, 1, 0, 0, 0, .null, []),
  (28, .aload_n 0, 1, 0, 0, 0, .null, []),
  (29, .getfield 34, 3, 11, 10, 2, .null, []),
  (32, .aload_n 0, 1, 0, 0, 0, .null, []),
  (33, .getfield 225, 3, 11, 11, 0, .null, []),
  (36, .iload_n 1, 1, 0, 0, 0, .null, []),
  (37, .iastore, 1, 0, 0, 0, .null, []),
  (38, .aload_n 0, 1, 0, 0, 0, .null, []),
  (39, .dup, 1, 0, 0, 0, .null, []),
  (40, .getfield 225, 3, 11, 11, 0, .null, []),
  (43, .iconst 1, 1, 0, 0, 0, .int 1, []),
  (44, .iadd, 1, 0, 0, 0, .null, []),
  (45, .putfield 225, 3, 11, 11, 0, .null, []),
  (48, .aload_n 0, 1, 0, 0, 0, .null, []),
  (49, .getfield 225, 3, 11, 11, 0, .null, []),
  (52, .ireturn, 1, 0, 0, 0, .null, [])]
def am_c_MD_here : List am_E := [(0, .aload_n 0, 1, 0, 0, 0, .null, [(0, 0)]),
  (1, .getfield 228, 3, 11, 12, 0, .null, []),
  (4, .aload_n 0, 1, 0, 0, 0, .null, []),
  (5, .getfield 225, 3, 11, 11, 0, .null, []),
  (8, .if_icmp .ge 30, 3, 38, 0, 0, .null, []),
  (11, .aload_n 0, 1, 0, 0, 0, .null, []),
  (12, .getfield 34, 3, 11, 10, 2, .null, []),
  (15, .aload_n 0, 1, 0, 0, 0, .null, []),
  (16, .getfield 228, 3, 11, 12, 0, .null, []),
  (19, .iaload, 1, 0, 0, 0, .null, []),
  (20, .bipush 32, 2, 0, 0, 0, .int 32, []),
  (22, .if_icmp .ne 16, 3, 38, 0, 0, .null, []),
  (25, .aload_n 0, 1, 0, 0, 0, .null, []),
  (26, .dup, 1, 0, 0, 0, .null, []),
  (27, .getfield 228, 3, 11, 12, 0, .null, []),
  (30, .iconst 1, 1, 0, 0, 0, .int 1, []),
  (31, .iadd, 1, 0, 0, 0, .null, []),
  (32, .putfield 228, 3, 11, 12, 0, .null, []),
  (35, .goto (-35), 3, 0, 0, 0, .null, []),
  (38, .aload_n 0, 1, 0, 0, 0, .null, []),
  (39, .getfield 228, 3, 11, 12, 0, .null, []),
  (42, .aload_n 0, 1, 0, 0, 0, .null, []),
  (43, .getfield 225, 3, 11, 11, 0, .null, []),
  (46, .if_icmp .ge 15, 3, 61, 0, 0, .null, []),
  (49, .aload_n 0, 1, 0, 0, 0, .null, []),
  (50, .getfield 34, 3, 11, 10, 2, .null, []),
  (53, .aload_n 0, 1, 0, 0, 0, .null, []),
  (54, .getfield 228, 3, 11, 12, 0, .null, []),
  (57, .iaload, 1, 0, 0, 0, .null, []),
  (58, .goto 4, 3, 62, 0, 0, .null, []),
  (61, .iconst 0, 1, 0, 0, 0, .int 0, []),
  (62, .ireturn, 1, 0, 0, 0, .null, [])]
def am_c_MD_figure : List am_E := [(0, .aload_n 0, 1, 0, 0, 0, .null, []),
  (1, .invokevirtual 231, 3, 183, 0, 13, .null, []),
  (4, .bipush 48, 2, 0, 0, 0, .int 48, []),
  (6, .isub, 1, 0, 0, 0, .null, []),
  (7, .istore_n 3, 1, 0, 0, 0, .null, []),
  (8, .iload_n 3, 1, 0, 0, 0, .null, []),
  (9, .i2l, 1, 0, 0, 0, .null, []),
  (10, .iload_n 1, 1, 0, 0, 0, .null, []),
  (11, .i2l, 1, 0, 0, 0, .null, []),
  (12, .iload_n 2, 1, 0, 0, 0, .null, []),
  (13, .i2l, 1, 0, 0, 0, .null, []),
  (14, .invokestatic 76, 3, 131, 3, 0, .null, []),
  (17, .ifCond .ne 5, 3, 22, 0, 0, .null, []),
  (20, .iconst (-1), 1, 0, 0, 0, .int (-1), []),
  (21, .ireturn, 1, 0, 0, 0, .null, []),
  (22, .aload_n 0, 1, 0, 0, 0, .null, []),
  (23, .dup, 1, 0, 0, 0, .null, []),
  (24, .getfield 228, 3, 11, 12, 0, .null, []),
  (27, .iconst 1, 1, 0, 0, 0, .int 1, []),
  (28, .iadd, 1, 0, 0, 0, .null, []),
  (29, .putfield 228, 3, 11, 12, 0, .null, []),
  (32, .iload_n 3, 1, 0, 0, 0, .null, []),
  (33, .ireturn, 1, 0, 0, 0, .null, [])]
def am_c_MD_gets : List am_E := [(0, .aload_n 0, 1, 0, 0, 0, .null, []),
  (1, .aload_n 0, 1, 0, 0, 0, .null, []),
  (2, .getfield 234, 3, 11, 16, 1, .null, []),
  (5, .ifCond .ne 12, 3, 17, 0, 0, .null, []),
  (8, .aload_n 0, 1, 0, 0, 0, .null, []),
  (9, .getfield 238, 3, 11, 14, 0, .null, []),
  (12, .bipush 12, 2, 0, 0, 0, .int 12, []),
  (14, .if_icmp .ne 7, 3, 21, 0, 0, .null, []),
  (17, .iconst 1, 1, 0, 0, 0, .int 1, []),
  (18, .goto 4, 3, 22, 0, 0, .null, []),
  (21, .iconst 0, 1, 0, 0, 0, .int 0, []),
  (22, .putfield 234, 3, 11, 16, 1, .null, []),
  (25, .aload_n 0, 1, 0, 0, 0, .null, []),
  (26, .getfield 234, 3, 11, 16, 1, .null, []),
  (29, .ifCond .ne 23, 3, 52, 0, 0, .null, []),
  (32, .aload_n 0, 1, 0, 0, 0, .null, []),
  (33, .getfield 37, 3, 11, 15, 2, .null, []),
  (36, .aload_n 0, 1, 0, 0, 0, .null, []),
  (37, .getfield 238, 3, 11, 14, 0, .null, []),
  (40, .iload_n 1, 1, 0, 0, 0, .null, []),
  (41, .iastore, 1, 0, 0, 0, .null, []),
  (42, .aload_n 0, 1, 0, 0, 0, .null, []),
  (43, .dup, 1, 0, 0, 0, .null, []),
  (44, .getfield 238, 3, 11, 14, 0, .null, []),
  (47, .iconst 1, 1, 0, 0, 0, .int 1, []),
  (48, .iadd, 1, 0, 0, 0, .null, []),
  (49, .putfield 238, 3, 11, 14, 0, .null, []),
  (52, .return_, 1, 0, 0, 0, .null, [])]
def am_c_MD_isGot : List am_E := [(0, .iconst 0, 1, 0, 0, 0, .int 0, []),
  (1, .istore_n 2, 1, 0, 0, 0, .null, []),
  (2, .iconst 0, 1, 0, 0, 0, .int 0, []),
  (3, .istore_n 3, 1, 0, 0, 0, .null, []),
  (4, .iload_n 3, 1, 0, 0, 0, .null, [(0, 0)]),
  (5, .aload_n 0, 1, 0, 0, 0, .null, []),
  (6, .getfield 238, 3, 11, 14, 0, .null, []),
  (9, .if_icmp .ge 29, 3, 38, 0, 0, .null, []),
  (12, .iload_n 2, 1, 0, 0, 0, .null, []),
  (13, .ifCond .ne 13, 3, 26, 0, 0, .null, []),
  (16, .aload_n 0, 1, 0, 0, 0, .null, []),
  (17, .getfield 37, 3, 11, 15, 2, .null, []),
  (20, .iload_n 3, 1, 0, 0, 0, .null, []),
  (21, .iaload, 1, 0, 0, 0, .null, []),
  (22, .iload_n 1, 1, 0, 0, 0, .null, []),
  (23, .if_icmp .ne 7, 3, 30, 0, 0, .null, []),
  (26, .iconst 1, 1, 0, 0, 0, .int 1, []),
  (27, .goto 4, 3, 31, 0, 0, .null, []),
  (30, .iconst 0, 1, 0, 0, 0, .int 0, []),
  (31, .istore_n 2, 1, 0, 0, 0, .null, []),
  (32, .iinc 3 1, 3, 0, 0, 0, .int 1, []),
  (35, .goto (-31), 3, 4, 0, 0, .null, []),
  (38, .iload_n 2, 1, 0, 0, 0, .null, []),
  (39, .ireturn, 1, 0, 0, 0, .null, [])]
def am_c_MD_majority : List am_E := [(0, .aload_n 0, 1, 0, 0, 0, .null, []),
  (1, .iconst 1, 1, 0, 0, 0, .int 1, []),
  (2, .iconst 5, 1, 0, 0, 0, .int 5, []),
  (3, .invokevirtual 241, 3, 184, 2, 13, .null, []),
  (6, .istore_n 1, 1, 0, 0, 0, .null, []),
  (7, .aload_n 0, 1, 0, 0, 0, .null, []),
  (8, .iload_n 1, 1, 0, 0, 0, .null, []),
  (9, .putfield 244, 3, 11, 13, 0, .null, []),
  (12, .iconst 1, 1, 0, 0, 0, .int 1, []),
  (13, .istore_n 2, 1, 0, 0, 0, .null, []),
  (14, .iload_n 1, 1, 0, 0, 0, .null, [(0, 0)]),
  (15, .ifCond .le 33, 3, 48, 0, 0, .null, []),
  (18, .iload_n 2, 1, 0, 0, 0, .null, []),
  (19, .iconst 1, 1, 0, 0, 0, .int 1, []),
  (20, .iload_n 1, 1, 0, 0, 0, .null, []),
  (21, .ishl, 1, 0, 0, 0, .null, []),
  (22, .if_icmp .ge 26, 3, 48, 0, 0, .null, []),
  (25, .iload_n 2, 1, 0, 0, 0, .null, []),
  (26, .invokestatic 73, 3, 134, 1, 0, .null, []),
  (29, .iload_n 1, 1, 0, 0, 0, .null, []),
  (30, .iconst 2, 1, 0, 0, 0, .int 2, []),
  (31, .idiv, 1, 0, 0, 0, .null, []),
  (32, .iconst 1, 1, 0, 0, 0, .int 1, []),
  (33, .iadd, 1, 0, 0, 0, .null, []),
  (34, .if_icmp .ne 8, 3, 42, 0, 0, .null, []),
  (37, .aload_n 0, 1, 0, 0, 0, .null, []),
  (38, .iload_n 2, 1, 0, 0, 0, .null, []),
  (39, .invokevirtual 247, 3, 185, 1, 13, .null, []),
  (42, .iinc 2 1, 3, 0, 0, 0, .int 1, []),
  (45, .goto (-31), 3, 14, 0, 0, .null, []),
  (48, .iload_n 1, 1, 0, 0, 0, .null, []),
  (49, .ifCond .le 7, 3, 56, 0, 0, .null, []),
  (52, .iconst 1, 1, 0, 0, 0, .int 1, []),
  (53, .goto 4, 3, 57, 0, 0, .null, []),
  (56, .iconst 0, 1, 0, 0, 0, .int 0, []),
  (57, .ireturn, 1, 0, 0, 0, .null, [])]
def am_c_MD_grid_1 : List am_E := [(80, .iconst 0, 1, 0, 0, 0, .int 0, []),
  (81, .istore 6, 2, 0, 0, 0, .null, []),
  (83, .iload 6, 2, 0, 0, 0, .null, [(0, 0)]),
  (85, .iload_n 1, 1, 0, 0, 0, .null, []),
  (86, .iload_n 2, 1, 0, 0, 0, .null, []),
  (87, .imul, 1, 0, 0, 0, .null, []),
  (88, .if_icmp .ge 39, 3, 127, 0, 0, .null, []),
  (91, .iload 5, 2, 0, 0, 0, .null, []),
  (93, .iload 6, 2, 0, 0, 0, .null, []),
  (95, .iload_n 1, 1, 0, 0, 0, .null, []),
  (96, .idiv, 1, 0, 0, 0, .null, []),
  (97, .iload_n 3, 1, 0, 0, 0, .null, []),
  (98, .if_icmp .eq 12, 3, 110, 0, 0, .null, []),
  (101, .iload 6, 2, 0, 0, 0, .null, []),
  (103, .iload_n 1, 1, 0, 0, 0, .null, []),
  (104, .irem, 1, 0, 0, 0, .null, []),
  (105, .iload 4, 2, 0, 0, 0, .null, []),
  (107, .if_icmp .ne 10, 3, 117, 0, 0, .null, []),
  (110, .iconst 1, 1, 0, 0, 0, .int 1, []),
  (111, .iload 6, 2, 0, 0, 0, .null, []),
  (113, .ishl, 1, 0, 0, 0, .null, []),
  (114, .goto 4, 3, 118, 0, 0, .null, []),
  (117, .iconst 0, 1, 0, 0, 0, .int 0, []),
  (118, .ior, 1, 0, 0, 0, .null, []),
  (119, .istore 5, 2, 0, 0, 0, .null, []),
  (121, .iinc 6 1, 3, 0, 0, 0, .int 1, []),
  (124, .goto (-41), 3, 83, 0, 0, .null, []),
  (127, .aload_n 0, 1, 0, 0, 0, .null, []),
  (128, .iload 5, 2, 0, 0, 0, .null, []),
  (130, .invokevirtual 250, 3, 186, 1, 13, .null, []),
  (133, .ifCond .ne 9, 3, 142, 0, 0, .null, []),
  (136, .aload_n 0, 1, 0, 0, 0, .null, []),
  (137, .iload 5, 2, 0, 0, 0, .null, []),
  (139, .invokevirtual 247, 3, 185, 1, 13, .null, []),
  (142, .iinc 4 1, 3, 0, 0, 0, .int 1, []),
  (145, .goto (-74), 3, 71, 0, 0, .null, []),
  (148, .iinc 3 1, 3, 0, 0, 0, .int 1, []),
  (151, .goto (-88), 3, 63, 0, 0, .null, []),
  (154, .iload_n 2, 1, 0, 0, 0, .null, []),
  (155, .ifCond .le 7, 3, 162, 0, 0, .null, []),
  (158, .iconst 1, 1, 0, 0, 0, .int 1, []),
  (159, .goto 4, 3, 163, 0, 0, .null, []),
  (162, .iconst 0, 1, 0, 0, 0, .int 0, []),
  (163, .ireturn, 1, 0, 0, 0, .null, [])]
def am_c_MD_grid : List am_E := (0, .aload_n 0, 1, 0, 0, 0, .null, []) ::
  (1, .iconst 1, 1, 0, 0, 0, .int 1, []) ::
  (2, .iconst 4, 1, 0, 0, 0, .int 4, []) ::
  (3, .invokevirtual 241, 3, 184, 2, 13, .null, []) ::
  (6, .istore_n 1, 1, 0, 0, 0, .null, []) ::
  (7, .iload_n 1, 1, 0, 0, 0, .null, []) ::
  (8, .ifCond .lt 12, 3, 20, 0, 0, .null, []) ::
  (11, .aload_n 0, 1, 0, 0, 0, .null, []) ::
  (12, .invokevirtual 231, 3, 183, 0, 13, .null, []) ::
  (15, .bipush 42, 2, 0, 0, 0, .int 42, []) ::
  (17, .if_icmp .eq 5, 3, 22, 0, 0, .null, []) ::
  (20, .iconst 0, 1, 0, 0, 0, .int 0, []) ::
  (21, .ireturn, 1, 0, 0, 0, .null, []) ::
  (22, .aload_n 0, 1, 0, 0, 0, .null, []) ::
  (23, .dup, 1, 0, 0, 0, .null, []) ::
  (24, .getfield 228, 3, 11, 12, 0, .null, []) ::
  (27, .iconst 1, 1, 0, 0, 0, .int 1, []) ::
  (28, .iadd, 1, 0, 0, 0, .null, []) ::
  (29, .putfield 228, 3, 11, 12, 0, .null, []) ::
  (32, .aload_n 0, 1, 0, 0, 0, .null, []) ::
  (33, .iconst 1, 1, 0, 0, 0, .int 1, []) ::
  (34, .bipush 7, 2, 0, 0, 0, .int 7, []) ::
  (36, .iload_n 1, 1, 0, 0, 0, .null, []) ::
  (37, .idiv, 1, 0, 0, 0, .null, []) ::
  (38, .iconst 4, 1, 0, 0, 0, .int 4, []) ::
  (39, .if_icmp .ge 10, 3, 49, 0, 0, .null, []) ::
  (42, .bipush 7, 2, 0, 0, 0, .int 7, []) ::
  (44, .iload_n 1, 1, 0, 0, 0, .null, []) ::
  (45, .idiv, 1, 0, 0, 0, .null, []) ::
  (46, .goto 4, 3, 50, 0, 0, .null, []) ::
  (49, .iconst 4, 1, 0, 0, 0, .int 4, []) ::
  (50, .invokevirtual 241, 3, 184, 2, 13, .null, []) ::
  (53, .istore_n 2, 1, 0, 0, 0, .null, []) ::
  (54, .aload_n 0, 1, 0, 0, 0, .null, []) ::
  (55, .iload_n 1, 1, 0, 0, 0, .null, []) ::
  (56, .iload_n 2, 1, 0, 0, 0, .null, []) ::
  (57, .imul, 1, 0, 0, 0, .null, []) ::
  (58, .putfield 244, 3, 11, 13, 0, .null, []) ::
  (61, .iconst 0, 1, 0, 0, 0, .int 0, []) ::
  (62, .istore_n 3, 1, 0, 0, 0, .null, []) ::
  (63, .iload_n 3, 1, 0, 0, 0, .null, [(0, 0)]) ::
  (64, .iload_n 2, 1, 0, 0, 0, .null, []) ::
  (65, .if_icmp .ge 89, 3, 154, 0, 0, .null, []) ::
  (68, .iconst 0, 1, 0, 0, 0, .int 0, []) ::
  (69, .istore 4, 2, 0, 0, 0, .null, []) ::
  (71, .iload 4, 2, 0, 0, 0, .null, [(0, 0)]) ::
  (73, .iload_n 1, 1, 0, 0, 0, .null, []) ::
  (74, .if_icmp .ge 74, 3, 148, 0, 0, .null, []) ::
  (77, .iconst 0, 1, 0, 0, 0, .int 0, []) ::
  (78, .istore 5, 2, 0, 0, 0, .null, []) :: am_c_MD_grid_1
def am_c_MD_wall_1 : List am_E := [(85, .iconst 0, 1, 0, 0, 0, .int 0, []),
  (86, .istore_n 2, 1, 0, 0, 0, .null, []),
  (87, .aload_n 0, 1, 0, 0, 0, .null, []),
  (88, .dup, 1, 0, 0, 0, .null, []),
  (89, .getfield 228, 3, 11, 12, 0, .null, []),
  (92, .iload_n 2, 1, 0, 0, 0, .null, []),
  (93, .ifCond .eq 7, 3, 100, 0, 0, .null, []),
  (96, .iconst 1, 1, 0, 0, 0, .int 1, []),
  (97, .goto 4, 3, 101, 0, 0, .null, []),
  (100, .iconst 0, 1, 0, 0, 0, .int 0, []),
  (101, .iadd, 1, 0, 0, 0, .null, []),
  (102, .putfield 228, 3, 11, 12, 0, .null, []),
  (105, .goto (-96), 3, 9, 0, 0, .null, []),
  (108, .iconst 0, 1, 0, 0, 0, .int 0, []),
  (109, .istore_n 3, 1, 0, 0, 0, .null, []),
  (110, .iload_n 3, 1, 0, 0, 0, .null, [(0, 0)]),
  (111, .iload_n 1, 1, 0, 0, 0, .null, []),
  (112, .if_icmp .ge 15, 3, 127, 0, 0, .null, []),
  (115, .aload_n 0, 1, 0, 0, 0, .null, []),
  (116, .iload_n 3, 1, 0, 0, 0, .null, []),
  (117, .iload_n 1, 1, 0, 0, 0, .null, []),
  (118, .invokevirtual 253, 3, 190, 2, 13, .null, []),
  (121, .iinc 3 1, 3, 0, 0, 0, .int 1, []),
  (124, .goto (-14), 3, 110, 0, 0, .null, []),
  (127, .iconst 1, 1, 0, 0, 0, .int 1, []),
  (128, .ireturn, 1, 0, 0, 0, .null, [])]
def am_c_MD_wall : List am_E := (0, .iconst 0, 1, 0, 0, 0, .int 0, []) ::
  (1, .istore_n 1, 1, 0, 0, 0, .null, []) ::
  (2, .aload_n 0, 1, 0, 0, 0, .null, []) ::
  (3, .iconst 0, 1, 0, 0, 0, .int 0, []) ::
  (4, .putfield 244, 3, 11, 13, 0, .null, []) ::
  (7, .iconst 1, 1, 0, 0, 0, .int 1, []) ::
  (8, .istore_n 2, 1, 0, 0, 0, .null, []) ::
  (9, .iload_n 2, 1, 0, 0, 0, .null, [(0, 0)]) ::
  (10, .ifCond .eq 98, 3, 108, 0, 0, .null, []) ::
  (13, .aload_n 0, 1, 0, 0, 0, .null, []) ::
  (14, .iconst 1, 1, 0, 0, 0, .int 1, []) ::
  (15, .bipush 7, 2, 0, 0, 0, .int 7, []) ::
  (17, .aload_n 0, 1, 0, 0, 0, .null, []) ::
  (18, .getfield 244, 3, 11, 13, 0, .null, []) ::
  (21, .isub, 1, 0, 0, 0, .null, []) ::
  (22, .iconst 4, 1, 0, 0, 0, .int 4, []) ::
  (23, .if_icmp .ge 13, 3, 36, 0, 0, .null, []) ::
  (26, .bipush 7, 2, 0, 0, 0, .int 7, []) ::
  (28, .aload_n 0, 1, 0, 0, 0, .null, []) ::
  (29, .getfield 244, 3, 11, 13, 0, .null, []) ::
  (32, .isub, 1, 0, 0, 0, .null, []) ::
  (33, .goto 4, 3, 37, 0, 0, .null, []) ::
  (36, .iconst 4, 1, 0, 0, 0, .int 4, []) ::
  (37, .invokevirtual 241, 3, 184, 2, 13, .null, []) ::
  (40, .istore_n 3, 1, 0, 0, 0, .null, []) ::
  (41, .iload_n 3, 1, 0, 0, 0, .null, []) ::
  (42, .ifCond .ge 5, 3, 47, 0, 0, .null, []) ::
  (45, .iconst 0, 1, 0, 0, 0, .int 0, []) ::
  (46, .ireturn, 1, 0, 0, 0, .null, []) ::
  (47, .aload_n 0, 1, 0, 0, 0, .null, []) ::
  (48, .getfield 40, 3, 11, 17, 2, .null, []) ::
  (51, .iload_n 1, 1, 0, 0, 0, .null, []) ::
  (52, .iload_n 3, 1, 0, 0, 0, .null, []) ::
  (53, .iastore, 1, 0, 0, 0, .null, []) ::
  (54, .iinc 1 1, 3, 0, 0, 0, .int 1, []) ::
  (57, .aload_n 0, 1, 0, 0, 0, .null, []) ::
  (58, .dup, 1, 0, 0, 0, .null, []) ::
  (59, .getfield 244, 3, 11, 13, 0, .null, []) ::
  (62, .iload_n 3, 1, 0, 0, 0, .null, []) ::
  (63, .iadd, 1, 0, 0, 0, .null, []) ::
  (64, .putfield 244, 3, 11, 13, 0, .null, []) ::
  (67, .iload_n 1, 1, 0, 0, 0, .null, []) ::
  (68, .iconst 3, 1, 0, 0, 0, .int 3, []) ::
  (69, .if_icmp .ge 16, 3, 85, 0, 0, .null, []) ::
  (72, .aload_n 0, 1, 0, 0, 0, .null, []) ::
  (73, .invokevirtual 231, 3, 183, 0, 13, .null, []) ::
  (76, .bipush 44, 2, 0, 0, 0, .int 44, []) ::
  (78, .if_icmp .ne 7, 3, 85, 0, 0, .null, []) ::
  (81, .iconst 1, 1, 0, 0, 0, .int 1, []) ::
  (82, .goto 4, 3, 86, 0, 0, .null, []) :: am_c_MD_wall_1
def am_c_MD_walls_1 : List am_E := [(84, .istore 6, 2, 0, 0, 0, .null, []),
  (86, .iload 5, 2, 0, 0, 0, .null, []),
  (88, .istore 7, 2, 0, 0, 0, .null, []),
  (90, .aload_n 0, 1, 0, 0, 0, .null, []),
  (91, .getfield 244, 3, 11, 13, 0, .null, []),
  (94, .istore 8, 2, 0, 0, 0, .null, []),
  (96, .iload_n 2, 1, 0, 0, 0, .null, []),
  (97, .iconst 1, 1, 0, 0, 0, .int 1, []),
  (98, .isub, 1, 0, 0, 0, .null, []),
  (99, .istore 9, 2, 0, 0, 0, .null, []),
  (101, .iload 9, 2, 0, 0, 0, .null, [(0, 0)]),
  (103, .iload_n 1, 1, 0, 0, 0, .null, []),
  (104, .if_icmp .le 53, 3, 157, 0, 0, .null, []),
  (107, .iload 8, 2, 0, 0, 0, .null, []),
  (109, .aload_n 0, 1, 0, 0, 0, .null, []),
  (110, .getfield 40, 3, 11, 17, 2, .null, []),
  (113, .iload 9, 2, 0, 0, 0, .null, []),
  (115, .iaload, 1, 0, 0, 0, .null, []),
  (116, .isub, 1, 0, 0, 0, .null, []),
  (117, .istore 8, 2, 0, 0, 0, .null, []),
  (119, .iload 6, 2, 0, 0, 0, .null, []),
  (121, .iconst 1, 1, 0, 0, 0, .int 1, []),
  (122, .iload 8, 2, 0, 0, 0, .null, []),
  (124, .iload 7, 2, 0, 0, 0, .null, []),
  (126, .aload_n 0, 1, 0, 0, 0, .null, []),
  (127, .getfield 40, 3, 11, 17, 2, .null, []),
  (130, .iload 9, 2, 0, 0, 0, .null, []),
  (132, .iaload, 1, 0, 0, 0, .null, []),
  (133, .irem, 1, 0, 0, 0, .null, []),
  (134, .iadd, 1, 0, 0, 0, .null, []),
  (135, .ishl, 1, 0, 0, 0, .null, []),
  (136, .ior, 1, 0, 0, 0, .null, []),
  (137, .istore 6, 2, 0, 0, 0, .null, []),
  (139, .iload 7, 2, 0, 0, 0, .null, []),
  (141, .aload_n 0, 1, 0, 0, 0, .null, []),
  (142, .getfield 40, 3, 11, 17, 2, .null, []),
  (145, .iload 9, 2, 0, 0, 0, .null, []),
  (147, .iaload, 1, 0, 0, 0, .null, []),
  (148, .idiv, 1, 0, 0, 0, .null, []),
  (149, .istore 7, 2, 0, 0, 0, .null, []),
  (151, .iinc 9 (-1), 3, 0, 0, 0, .int (-1), []),
  (154, .goto (-53), 3, 101, 0, 0, .null, []),
  (157, .aload_n 0, 1, 0, 0, 0, .null, []),
  (158, .iload 6, 2, 0, 0, 0, .null, []),
  (160, .invokevirtual 247, 3, 185, 1, 13, .null, []),
  (163, .iinc 5 1, 3, 0, 0, 0, .int 1, []),
  (166, .goto (-101), 3, 65, 0, 0, .null, []),
  (169, .return_, 1, 0, 0, 0, .null, [])]
def am_c_MD_walls : List am_E := (0, .iconst 1, 1, 0, 0, 0, .int 1, []) ::
  (1, .istore_n 3, 1, 0, 0, 0, .null, []) ::
  (2, .iconst 0, 1, 0, 0, 0, .int 0, []) ::
  (3, .istore 4, 2, 0, 0, 0, .null, []) ::
  (5, .iconst 0, 1, 0, 0, 0, .int 0, []) ::
  (6, .istore 5, 2, 0, 0, 0, .null, []) ::
  (8, .iload 5, 2, 0, 0, 0, .null, [(0, 0)]) ::
  (10, .iload_n 2, 1, 0, 0, 0, .null, []) ::
  (11, .if_icmp .ge 51, 3, 62, 0, 0, .null, []) ::
  (14, .iload 4, 2, 0, 0, 0, .null, []) ::
  (16, .iload 5, 2, 0, 0, 0, .null, []) ::
  (18, .iload_n 1, 1, 0, 0, 0, .null, []) ::
  (19, .if_icmp .ge 13, 3, 32, 0, 0, .null, []) ::
  (22, .aload_n 0, 1, 0, 0, 0, .null, []) ::
  (23, .getfield 40, 3, 11, 17, 2, .null, []) ::
  (26, .iload 5, 2, 0, 0, 0, .null, []) ::
  (28, .iaload, 1, 0, 0, 0, .null, []) ::
  (29, .goto 4, 3, 33, 0, 0, .null, []) ::
  (32, .iconst 0, 1, 0, 0, 0, .int 0, []) ::
  (33, .iadd, 1, 0, 0, 0, .null, []) ::
  (34, .istore 4, 2, 0, 0, 0, .null, []) ::
  (36, .iload_n 3, 1, 0, 0, 0, .null, []) ::
  (37, .iload 5, 2, 0, 0, 0, .null, []) ::
  (39, .iload_n 1, 1, 0, 0, 0, .null, []) ::
  (40, .if_icmp .le 13, 3, 53, 0, 0, .null, []) ::
  (43, .aload_n 0, 1, 0, 0, 0, .null, []) ::
  (44, .getfield 40, 3, 11, 17, 2, .null, []) ::
  (47, .iload 5, 2, 0, 0, 0, .null, []) ::
  (49, .iaload, 1, 0, 0, 0, .null, []) ::
  (50, .goto 4, 3, 54, 0, 0, .null, []) ::
  (53, .iconst 1, 1, 0, 0, 0, .int 1, []) ::
  (54, .imul, 1, 0, 0, 0, .null, []) ::
  (55, .istore_n 3, 1, 0, 0, 0, .null, []) ::
  (56, .iinc 5 1, 3, 0, 0, 0, .int 1, []) ::
  (59, .goto (-51), 3, 8, 0, 0, .null, []) ::
  (62, .iconst 0, 1, 0, 0, 0, .int 0, []) ::
  (63, .istore 5, 2, 0, 0, 0, .null, []) ::
  (65, .iload 5, 2, 0, 0, 0, .null, [(0, 0)]) ::
  (67, .iload_n 3, 1, 0, 0, 0, .null, []) ::
  (68, .if_icmp .ge 101, 3, 169, 0, 0, .null, []) ::
  (71, .iconst 1, 1, 0, 0, 0, .int 1, []) ::
  (72, .aload_n 0, 1, 0, 0, 0, .null, []) ::
  (73, .getfield 40, 3, 11, 17, 2, .null, []) ::
  (76, .iload_n 1, 1, 0, 0, 0, .null, []) ::
  (77, .iaload, 1, 0, 0, 0, .null, []) ::
  (78, .ishl, 1, 0, 0, 0, .null, []) ::
  (79, .iconst 1, 1, 0, 0, 0, .int 1, []) ::
  (80, .isub, 1, 0, 0, 0, .null, []) ::
  (81, .iload 4, 2, 0, 0, 0, .null, []) ::
  (83, .ishl, 1, 0, 0, 0, .null, []) :: am_c_MD_walls_1
def am_c_MD_plane : List am_E := [(0, .aload_n 0, 1, 0, 0, 0, .null, []),
  (1, .bipush 7, 2, 0, 0, 0, .int 7, []),
  (3, .putfield 244, 3, 11, 13, 0, .null, []),
  (6, .iconst 0, 1, 0, 0, 0, .int 0, []),
  (7, .istore_n 1, 1, 0, 0, 0, .null, []),
  (8, .iload_n 1, 1, 0, 0, 0, .null, [(0, 0)]),
  (9, .bipush 7, 2, 0, 0, 0, .int 7, []),
  (11, .if_icmp .ge 34, 3, 45, 0, 0, .null, []),
  (14, .aload_n 0, 1, 0, 0, 0, .null, []),
  (15, .iconst 1, 1, 0, 0, 0, .int 1, []),
  (16, .iload_n 1, 1, 0, 0, 0, .null, []),
  (17, .ishl, 1, 0, 0, 0, .null, []),
  (18, .iconst 1, 1, 0, 0, 0, .int 1, []),
  (19, .iload_n 1, 1, 0, 0, 0, .null, []),
  (20, .iconst 1, 1, 0, 0, 0, .int 1, []),
  (21, .iadd, 1, 0, 0, 0, .null, []),
  (22, .bipush 7, 2, 0, 0, 0, .int 7, []),
  (24, .irem, 1, 0, 0, 0, .null, []),
  (25, .ishl, 1, 0, 0, 0, .null, []),
  (26, .ior, 1, 0, 0, 0, .null, []),
  (27, .iconst 1, 1, 0, 0, 0, .int 1, []),
  (28, .iload_n 1, 1, 0, 0, 0, .null, []),
  (29, .iconst 3, 1, 0, 0, 0, .int 3, []),
  (30, .iadd, 1, 0, 0, 0, .null, []),
  (31, .bipush 7, 2, 0, 0, 0, .int 7, []),
  (33, .irem, 1, 0, 0, 0, .null, []),
  (34, .ishl, 1, 0, 0, 0, .null, []),
  (35, .ior, 1, 0, 0, 0, .null, []),
  (36, .invokevirtual 247, 3, 185, 1, 13, .null, []),
  (39, .iinc 1 1, 3, 0, 0, 0, .int 1, []),
  (42, .goto (-34), 3, 8, 0, 0, .null, []),
  (45, .iconst 1, 1, 0, 0, 0, .int 1, []),
  (46, .ireturn, 1, 0, 0, 0, .null, [])]
def am_c_MD_told : List am_E := [(0, .aload_n 0, 1, 0, 0, 0, .null, []),
  (1, .aload_n 0, 1, 0, 0, 0, .null, []),
  (2, .iconst 1, 1, 0, 0, 0, .int 1, []),
  (3, .bipush 7, 2, 0, 0, 0, .int 7, []),
  (5, .invokevirtual 241, 3, 184, 2, 13, .null, []),
  (8, .putfield 244, 3, 11, 13, 0, .null, []),
  (11, .aload_n 0, 1, 0, 0, 0, .null, []),
  (12, .getfield 244, 3, 11, 13, 0, .null, []),
  (15, .ifCond .ge 5, 3, 20, 0, 0, .null, []),
  (18, .iconst 0, 1, 0, 0, 0, .int 0, []),
  (19, .ireturn, 1, 0, 0, 0, .null, []),
  (20, .aload_n 0, 1, 0, 0, 0, .null, []),
  (21, .invokevirtual 231, 3, 183, 0, 13, .null, []),
  (24, .bipush 58, 2, 0, 0, 0, .int 58, []),
  (26, .if_icmp .ne 7, 3, 33, 0, 0, .null, []),
  (29, .iconst 1, 1, 0, 0, 0, .int 1, []),
  (30, .goto 4, 3, 34, 0, 0, .null, []),
  (33, .iconst 0, 1, 0, 0, 0, .int 0, []),
  (34, .istore_n 1, 1, 0, 0, 0, .null, []),
  (35, .iload_n 1, 1, 0, 0, 0, .null, [(0, 0)]),
  (36, .ifCond .eq 40, 3, 76, 0, 0, .null, []),
  (39, .aload_n 0, 1, 0, 0, 0, .null, []),
  (40, .dup, 1, 0, 0, 0, .null, []),
  (41, .getfield 228, 3, 11, 12, 0, .null, []),
  (44, .iconst 1, 1, 0, 0, 0, .int 1, []),
  (45, .iadd, 1, 0, 0, 0, .null, []),
  (46, .putfield 228, 3, 11, 12, 0, .null, []),
  (49, .aload_n 0, 1, 0, 0, 0, .null, []),
  (50, .invokevirtual 256, 3, 193, 0, 13, .null, []),
  (53, .ifCond .ne 5, 3, 58, 0, 0, .null, []),
  (56, .iconst 0, 1, 0, 0, 0, .int 0, []),
  (57, .ireturn, 1, 0, 0, 0, .null, []),
  (58, .aload_n 0, 1, 0, 0, 0, .null, []),
  (59, .invokevirtual 231, 3, 183, 0, 13, .null, []),
  (62, .bipush 44, 2, 0, 0, 0, .int 44, []),
  (64, .if_icmp .ne 7, 3, 71, 0, 0, .null, []),
  (67, .iconst 1, 1, 0, 0, 0, .int 1, []),
  (68, .goto 4, 3, 72, 0, 0, .null, []),
  (71, .iconst 0, 1, 0, 0, 0, .int 0, []),
  (72, .istore_n 1, 1, 0, 0, 0, .null, []),
  (73, .goto (-38), 3, 35, 0, 0, .null, []),
  (76, .iconst 1, 1, 0, 0, 0, .int 1, []),
  (77, .ireturn, 1, 0, 0, 0, .null, [])]
def am_c_MD_one_1 : List am_E := [(97, .iconst 0, 1, 0, 0, 0, .int 0, []),
  (98, .ireturn, 1, 0, 0, 0, .null, []),
  (99, .iload_n 1, 1, 0, 0, 0, .null, []),
  (100, .iconst 1, 1, 0, 0, 0, .int 1, []),
  (101, .iload_n 2, 1, 0, 0, 0, .null, []),
  (102, .ishl, 1, 0, 0, 0, .null, []),
  (103, .ior, 1, 0, 0, 0, .null, []),
  (104, .istore_n 1, 1, 0, 0, 0, .null, []),
  (105, .aload_n 0, 1, 0, 0, 0, .null, []),
  (106, .dup, 1, 0, 0, 0, .null, []),
  (107, .getfield 228, 3, 11, 12, 0, .null, []),
  (110, .iconst 1, 1, 0, 0, 0, .int 1, []),
  (111, .iadd, 1, 0, 0, 0, .null, []),
  (112, .putfield 228, 3, 11, 12, 0, .null, []),
  (115, .goto (-80), 3, 35, 0, 0, .null, []),
  (118, .aload_n 0, 1, 0, 0, 0, .null, []),
  (119, .invokevirtual 231, 3, 183, 0, 13, .null, []),
  (122, .pop, 1, 0, 0, 0, .null, []),
  (123, .aload_n 0, 1, 0, 0, 0, .null, []),
  (124, .iload_n 1, 1, 0, 0, 0, .null, []),
  (125, .invokevirtual 250, 3, 186, 1, 13, .null, []),
  (128, .ifCond .eq 5, 3, 133, 0, 0, .null, []),
  (131, .iconst 0, 1, 0, 0, 0, .int 0, []),
  (132, .ireturn, 1, 0, 0, 0, .null, []),
  (133, .aload_n 0, 1, 0, 0, 0, .null, []),
  (134, .iload_n 1, 1, 0, 0, 0, .null, []),
  (135, .invokevirtual 247, 3, 185, 1, 13, .null, []),
  (138, .iconst 1, 1, 0, 0, 0, .int 1, []),
  (139, .ireturn, 1, 0, 0, 0, .null, [])]
def am_c_MD_one : List am_E := (0, .aload_n 0, 1, 0, 0, 0, .null, []) ::
  (1, .invokevirtual 231, 3, 183, 0, 13, .null, []) ::
  (4, .i2l, 1, 0, 0, 0, .null, []) ::
  (5, .ldc2_w 260, 3, 0, 0, 0, .long 48, []) ::
  (8, .bipush 47, 2, 0, 0, 0, .int 47, []) ::
  (10, .aload_n 0, 1, 0, 0, 0, .null, []) ::
  (11, .getfield 244, 3, 11, 13, 0, .null, []) ::
  (14, .iadd, 1, 0, 0, 0, .null, []) ::
  (15, .i2l, 1, 0, 0, 0, .null, []) ::
  (16, .invokestatic 76, 3, 131, 3, 0, .null, []) ::
  (19, .ifCond .eq 12, 3, 31, 0, 0, .null, []) ::
  (22, .aload_n 0, 1, 0, 0, 0, .null, []) ::
  (23, .getfield 238, 3, 11, 14, 0, .null, []) ::
  (26, .bipush 12, 2, 0, 0, 0, .int 12, []) ::
  (28, .if_icmp .ne 5, 3, 33, 0, 0, .null, []) ::
  (31, .iconst 0, 1, 0, 0, 0, .int 0, []) ::
  (32, .ireturn, 1, 0, 0, 0, .null, []) ::
  (33, .iconst 0, 1, 0, 0, 0, .int 0, []) ::
  (34, .istore_n 1, 1, 0, 0, 0, .null, []) ::
  (35, .aload_n 0, 1, 0, 0, 0, .null, [(0, 0)]) ::
  (36, .getfield 228, 3, 11, 12, 0, .null, []) ::
  (39, .aload_n 0, 1, 0, 0, 0, .null, []) ::
  (40, .getfield 225, 3, 11, 11, 0, .null, []) ::
  (43, .if_icmp .ge 75, 3, 118, 0, 0, .null, []) ::
  (46, .aload_n 0, 1, 0, 0, 0, .null, []) ::
  (47, .getfield 34, 3, 11, 10, 2, .null, []) ::
  (50, .aload_n 0, 1, 0, 0, 0, .null, []) ::
  (51, .getfield 228, 3, 11, 12, 0, .null, []) ::
  (54, .iaload, 1, 0, 0, 0, .null, []) ::
  (55, .i2l, 1, 0, 0, 0, .null, []) ::
  (56, .ldc2_w 260, 3, 0, 0, 0, .long 48, []) ::
  (59, .ldc2_w 262, 3, 0, 0, 0, .long 57, []) ::
  (62, .invokestatic 76, 3, 131, 3, 0, .null, []) ::
  (65, .ifCond .eq 53, 3, 118, 0, 0, .null, []) ::
  (68, .aload_n 0, 1, 0, 0, 0, .null, []) ::
  (69, .getfield 34, 3, 11, 10, 2, .null, []) ::
  (72, .aload_n 0, 1, 0, 0, 0, .null, []) ::
  (73, .getfield 228, 3, 11, 12, 0, .null, []) ::
  (76, .iaload, 1, 0, 0, 0, .null, []) ::
  (77, .bipush 48, 2, 0, 0, 0, .int 48, []) ::
  (79, .isub, 1, 0, 0, 0, .null, []) ::
  (80, .istore_n 2, 1, 0, 0, 0, .null, []) ::
  (81, .iload_n 2, 1, 0, 0, 0, .null, []) ::
  (82, .aload_n 0, 1, 0, 0, 0, .null, []) ::
  (83, .getfield 244, 3, 11, 13, 0, .null, []) ::
  (86, .if_icmp .ge 11, 3, 97, 0, 0, .null, []) ::
  (89, .iload_n 1, 1, 0, 0, 0, .null, []) ::
  (90, .iload_n 2, 1, 0, 0, 0, .null, []) ::
  (91, .invokestatic 91, 3, 133, 2, 0, .null, []) ::
  (94, .ifCond .eq 5, 3, 99, 0, 0, .null, []) :: am_c_MD_one_1
def am_c_MD_isName : List am_E := [(0, .aload_n 0, 1, 0, 0, 0, .null, []),
  (1, .getfield 228, 3, 11, 12, 0, .null, []),
  (4, .iload_n 1, 1, 0, 0, 0, .null, []),
  (5, .isub, 1, 0, 0, 0, .null, []),
  (6, .iload_n 2, 1, 0, 0, 0, .null, []),
  (7, .if_icmp .ne 61, 3, 68, 0, 0, .null, []),
  (10, .aload_n 0, 1, 0, 0, 0, .null, []),
  (11, .getfield 34, 3, 11, 10, 2, .null, []),
  (14, .iload_n 1, 1, 0, 0, 0, .null, []),
  (15, .iaload, 1, 0, 0, 0, .null, []),
  (16, .iload_n 3, 1, 0, 0, 0, .null, []),
  (17, .if_icmp .ne 51, 3, 68, 0, 0, .null, []),
  (20, .aload_n 0, 1, 0, 0, 0, .null, []),
  (21, .getfield 34, 3, 11, 10, 2, .null, []),
  (24, .iload_n 1, 1, 0, 0, 0, .null, []),
  (25, .iconst 1, 1, 0, 0, 0, .int 1, []),
  (26, .iadd, 1, 0, 0, 0, .null, []),
  (27, .iaload, 1, 0, 0, 0, .null, []),
  (28, .iload 4, 2, 0, 0, 0, .null, []),
  (30, .if_icmp .ne 38, 3, 68, 0, 0, .null, []),
  (33, .aload_n 0, 1, 0, 0, 0, .null, []),
  (34, .getfield 34, 3, 11, 10, 2, .null, []),
  (37, .iload_n 1, 1, 0, 0, 0, .null, []),
  (38, .iconst 2, 1, 0, 0, 0, .int 2, []),
  (39, .iadd, 1, 0, 0, 0, .null, []),
  (40, .iaload, 1, 0, 0, 0, .null, []),
  (41, .iload 5, 2, 0, 0, 0, .null, []),
  (43, .if_icmp .ne 25, 3, 68, 0, 0, .null, []),
  (46, .iload_n 2, 1, 0, 0, 0, .null, []),
  (47, .iconst 3, 1, 0, 0, 0, .int 3, []),
  (48, .if_icmp .eq 16, 3, 64, 0, 0, .null, []),
  (51, .aload_n 0, 1, 0, 0, 0, .null, []),
  (52, .getfield 34, 3, 11, 10, 2, .null, []),
  (55, .iload_n 1, 1, 0, 0, 0, .null, []),
  (56, .iconst 3, 1, 0, 0, 0, .int 3, []),
  (57, .iadd, 1, 0, 0, 0, .null, []),
  (58, .iaload, 1, 0, 0, 0, .null, []),
  (59, .iload 6, 2, 0, 0, 0, .null, []),
  (61, .if_icmp .ne 7, 3, 68, 0, 0, .null, []),
  (64, .iconst 1, 1, 0, 0, 0, .int 1, []),
  (65, .goto 4, 3, 69, 0, 0, .null, []),
  (68, .iconst 0, 1, 0, 0, 0, .int 0, []),
  (69, .ireturn, 1, 0, 0, 0, .null, [])]
def am_c_MD_isText_3 : List am_E := [(275, .invokevirtual 231, 3, 183, 0, 13, .null, []),
  (278, .ifCond .ne 7, 3, 285, 0, 0, .null, []),
  (281, .iconst 1, 1, 0, 0, 0, .int 1, []),
  (282, .goto 4, 3, 286, 0, 0, .null, []),
  (285, .iconst 0, 1, 0, 0, 0, .int 0, []),
  (286, .istore_n 2, 1, 0, 0, 0, .null, []),
  (287, .aload_n 0, 1, 0, 0, 0, .null, []),
  (288, .iload_n 2, 1, 0, 0, 0, .null, []),
  (289, .ifCond .eq 14, 3, 303, 0, 0, .null, []),
  (292, .aload_n 0, 1, 0, 0, 0, .null, []),
  (293, .getfield 234, 3, 11, 16, 1, .null, []),
  (296, .ifCond .eq 7, 3, 303, 0, 0, .null, []),
  (299, .iload_n 1, 1, 0, 0, 0, .null, []),
  (300, .goto 7, 3, 307, 0, 0, .null, []),
  (303, .aload_n 0, 1, 0, 0, 0, .null, []),
  (304, .getfield 228, 3, 11, 12, 0, .null, []),
  (307, .putfield 228, 3, 11, 12, 0, .null, []),
  (310, .iload_n 2, 1, 0, 0, 0, .null, []),
  (311, .ifCond .eq 14, 3, 325, 0, 0, .null, []),
  (314, .aload_n 0, 1, 0, 0, 0, .null, []),
  (315, .getfield 234, 3, 11, 16, 1, .null, []),
  (318, .ifCond .ne 7, 3, 325, 0, 0, .null, []),
  (321, .iconst 1, 1, 0, 0, 0, .int 1, []),
  (322, .goto 4, 3, 326, 0, 0, .null, []),
  (325, .iconst 0, 1, 0, 0, 0, .int 0, []),
  (326, .ireturn, 1, 0, 0, 0, .null, [])]
def am_c_MD_isText_2 : List am_E := (183, .bipush 108, 2, 0, 0, 0, .int 108, []) ::
  (185, .bipush 108, 2, 0, 0, 0, .int 108, []) ::
  (187, .invokevirtual 268, 3, 194, 6, 13, .null, []) ::
  (190, .ifCond .eq 11, 3, 201, 0, 0, .null, []) ::
  (193, .aload_n 0, 1, 0, 0, 0, .null, []) ::
  (194, .invokevirtual 278, 3, 189, 0, 13, .null, []) ::
  (197, .istore_n 2, 1, 0, 0, 0, .null, []) ::
  (198, .goto 72, 3, 270, 0, 0, .null, []) ::
  (201, .aload_n 0, 1, 0, 0, 0, .null, []) ::
  (202, .iload_n 1, 1, 0, 0, 0, .null, []) ::
  (203, .iconst 5, 1, 0, 0, 0, .int 5, []) ::
  (204, .bipush 112, 2, 0, 0, 0, .int 112, []) ::
  (206, .bipush 108, 2, 0, 0, 0, .int 108, []) ::
  (208, .bipush 97, 2, 0, 0, 0, .int 97, []) ::
  (210, .bipush 110, 2, 0, 0, 0, .int 110, []) ::
  (212, .invokevirtual 268, 3, 194, 6, 13, .null, []) ::
  (215, .ifCond .eq 24, 3, 239, 0, 0, .null, []) ::
  (218, .aload_n 0, 1, 0, 0, 0, .null, []) ::
  (219, .getfield 34, 3, 11, 10, 2, .null, []) ::
  (222, .iload_n 1, 1, 0, 0, 0, .null, []) ::
  (223, .iconst 4, 1, 0, 0, 0, .int 4, []) ::
  (224, .iadd, 1, 0, 0, 0, .null, []) ::
  (225, .iaload, 1, 0, 0, 0, .null, []) ::
  (226, .bipush 101, 2, 0, 0, 0, .int 101, []) ::
  (228, .if_icmp .ne 11, 3, 239, 0, 0, .null, []) ::
  (231, .aload_n 0, 1, 0, 0, 0, .null, []) ::
  (232, .invokevirtual 281, 3, 191, 0, 13, .null, []) ::
  (235, .istore_n 2, 1, 0, 0, 0, .null, []) ::
  (236, .goto 34, 3, 270, 0, 0, .null, []) ::
  (239, .aload_n 0, 1, 0, 0, 0, .null, []) ::
  (240, .iload_n 1, 1, 0, 0, 0, .null, []) ::
  (241, .iconst 3, 1, 0, 0, 0, .int 3, []) ::
  (242, .bipush 115, 2, 0, 0, 0, .int 115, []) ::
  (244, .bipush 101, 2, 0, 0, 0, .int 101, []) ::
  (246, .bipush 116, 2, 0, 0, 0, .int 116, []) ::
  (248, .iconst 0, 1, 0, 0, 0, .int 0, []) ::
  (249, .invokevirtual 268, 3, 194, 6, 13, .null, []) ::
  (252, .ifCond .eq 11, 3, 263, 0, 0, .null, []) ::
  (255, .aload_n 0, 1, 0, 0, 0, .null, []) ::
  (256, .invokevirtual 284, 3, 192, 0, 13, .null, []) ::
  (259, .istore_n 2, 1, 0, 0, 0, .null, []) ::
  (260, .goto 10, 3, 270, 0, 0, .null, []) ::
  (263, .aload_n 0, 1, 0, 0, 0, .null, []) ::
  (264, .iload_n 1, 1, 0, 0, 0, .null, []) ::
  (265, .putfield 228, 3, 11, 12, 0, .null, []) ::
  (268, .iconst 0, 1, 0, 0, 0, .int 0, []) ::
  (269, .ireturn, 1, 0, 0, 0, .null, []) ::
  (270, .iload_n 2, 1, 0, 0, 0, .null, []) ::
  (271, .ifCond .eq 14, 3, 285, 0, 0, .null, []) ::
  (274, .aload_n 0, 1, 0, 0, 0, .null, []) :: am_c_MD_isText_3
def am_c_MD_isText_1 : List am_E := (95, .iadd, 1, 0, 0, 0, .null, []) ::
  (96, .iaload, 1, 0, 0, 0, .null, []) ::
  (97, .bipush 114, 2, 0, 0, 0, .int 114, []) ::
  (99, .if_icmp .ne 52, 3, 151, 0, 0, .null, []) ::
  (102, .aload_n 0, 1, 0, 0, 0, .null, []) ::
  (103, .getfield 34, 3, 11, 10, 2, .null, []) ::
  (106, .iload_n 1, 1, 0, 0, 0, .null, []) ::
  (107, .iconst 5, 1, 0, 0, 0, .int 5, []) ::
  (108, .iadd, 1, 0, 0, 0, .null, []) ::
  (109, .iaload, 1, 0, 0, 0, .null, []) ::
  (110, .bipush 105, 2, 0, 0, 0, .int 105, []) ::
  (112, .if_icmp .ne 39, 3, 151, 0, 0, .null, []) ::
  (115, .aload_n 0, 1, 0, 0, 0, .null, []) ::
  (116, .getfield 34, 3, 11, 10, 2, .null, []) ::
  (119, .iload_n 1, 1, 0, 0, 0, .null, []) ::
  (120, .bipush 6, 2, 0, 0, 0, .int 6, []) ::
  (122, .iadd, 1, 0, 0, 0, .null, []) ::
  (123, .iaload, 1, 0, 0, 0, .null, []) ::
  (124, .bipush 116, 2, 0, 0, 0, .int 116, []) ::
  (126, .if_icmp .ne 25, 3, 151, 0, 0, .null, []) ::
  (129, .aload_n 0, 1, 0, 0, 0, .null, []) ::
  (130, .getfield 34, 3, 11, 10, 2, .null, []) ::
  (133, .iload_n 1, 1, 0, 0, 0, .null, []) ::
  (134, .bipush 7, 2, 0, 0, 0, .int 7, []) ::
  (136, .iadd, 1, 0, 0, 0, .null, []) ::
  (137, .iaload, 1, 0, 0, 0, .null, []) ::
  (138, .bipush 121, 2, 0, 0, 0, .int 121, []) ::
  (140, .if_icmp .ne 11, 3, 151, 0, 0, .null, []) ::
  (143, .aload_n 0, 1, 0, 0, 0, .null, []) ::
  (144, .invokevirtual 272, 3, 187, 0, 13, .null, []) ::
  (147, .istore_n 2, 1, 0, 0, 0, .null, []) ::
  (148, .goto 122, 3, 270, 0, 0, .null, []) ::
  (151, .aload_n 0, 1, 0, 0, 0, .null, []) ::
  (152, .iload_n 1, 1, 0, 0, 0, .null, []) ::
  (153, .iconst 4, 1, 0, 0, 0, .int 4, []) ::
  (154, .bipush 103, 2, 0, 0, 0, .int 103, []) ::
  (156, .bipush 114, 2, 0, 0, 0, .int 114, []) ::
  (158, .bipush 105, 2, 0, 0, 0, .int 105, []) ::
  (160, .bipush 100, 2, 0, 0, 0, .int 100, []) ::
  (162, .invokevirtual 268, 3, 194, 6, 13, .null, []) ::
  (165, .ifCond .eq 11, 3, 176, 0, 0, .null, []) ::
  (168, .aload_n 0, 1, 0, 0, 0, .null, []) ::
  (169, .invokevirtual 275, 3, 188, 0, 13, .null, []) ::
  (172, .istore_n 2, 1, 0, 0, 0, .null, []) ::
  (173, .goto 97, 3, 270, 0, 0, .null, []) ::
  (176, .aload_n 0, 1, 0, 0, 0, .null, []) ::
  (177, .iload_n 1, 1, 0, 0, 0, .null, []) ::
  (178, .iconst 4, 1, 0, 0, 0, .int 4, []) ::
  (179, .bipush 119, 2, 0, 0, 0, .int 119, []) ::
  (181, .bipush 97, 2, 0, 0, 0, .int 97, []) :: am_c_MD_isText_2
def am_c_MD_isText : List am_E := (0, .aload_n 0, 1, 0, 0, 0, .null, []) ::
  (1, .iconst 0, 1, 0, 0, 0, .int 0, []) ::
  (2, .putfield 228, 3, 11, 12, 0, .null, []) ::
  (5, .aload_n 0, 1, 0, 0, 0, .null, []) ::
  (6, .iconst 0, 1, 0, 0, 0, .int 0, []) ::
  (7, .putfield 238, 3, 11, 14, 0, .null, []) ::
  (10, .aload_n 0, 1, 0, 0, 0, .null, []) ::
  (11, .iconst 0, 1, 0, 0, 0, .int 0, []) ::
  (12, .putfield 234, 3, 11, 16, 1, .null, []) ::
  (15, .aload_n 0, 1, 0, 0, 0, .null, []) ::
  (16, .invokevirtual 231, 3, 183, 0, 13, .null, []) ::
  (19, .pop, 1, 0, 0, 0, .null, []) ::
  (20, .aload_n 0, 1, 0, 0, 0, .null, []) ::
  (21, .getfield 228, 3, 11, 12, 0, .null, []) ::
  (24, .istore_n 1, 1, 0, 0, 0, .null, []) ::
  (25, .aload_n 0, 1, 0, 0, 0, .null, [(0, 0)]) ::
  (26, .getfield 228, 3, 11, 12, 0, .null, []) ::
  (29, .aload_n 0, 1, 0, 0, 0, .null, []) ::
  (30, .getfield 225, 3, 11, 11, 0, .null, []) ::
  (33, .if_icmp .ge 38, 3, 71, 0, 0, .null, []) ::
  (36, .aload_n 0, 1, 0, 0, 0, .null, []) ::
  (37, .getfield 34, 3, 11, 10, 2, .null, []) ::
  (40, .aload_n 0, 1, 0, 0, 0, .null, []) ::
  (41, .getfield 228, 3, 11, 12, 0, .null, []) ::
  (44, .iaload, 1, 0, 0, 0, .null, []) ::
  (45, .i2l, 1, 0, 0, 0, .null, []) ::
  (46, .ldc2_w 264, 3, 0, 0, 0, .long 97, []) ::
  (49, .ldc2_w 266, 3, 0, 0, 0, .long 122, []) ::
  (52, .invokestatic 76, 3, 131, 3, 0, .null, []) ::
  (55, .ifCond .eq 16, 3, 71, 0, 0, .null, []) ::
  (58, .aload_n 0, 1, 0, 0, 0, .null, []) ::
  (59, .dup, 1, 0, 0, 0, .null, []) ::
  (60, .getfield 228, 3, 11, 12, 0, .null, []) ::
  (63, .iconst 1, 1, 0, 0, 0, .int 1, []) ::
  (64, .iadd, 1, 0, 0, 0, .null, []) ::
  (65, .putfield 228, 3, 11, 12, 0, .null, []) ::
  (68, .goto (-43), 3, 25, 0, 0, .null, []) ::
  (71, .aload_n 0, 1, 0, 0, 0, .null, []) ::
  (72, .iload_n 1, 1, 0, 0, 0, .null, []) ::
  (73, .bipush 8, 2, 0, 0, 0, .int 8, []) ::
  (75, .bipush 109, 2, 0, 0, 0, .int 109, []) ::
  (77, .bipush 97, 2, 0, 0, 0, .int 97, []) ::
  (79, .bipush 106, 2, 0, 0, 0, .int 106, []) ::
  (81, .bipush 111, 2, 0, 0, 0, .int 111, []) ::
  (83, .invokevirtual 268, 3, 194, 6, 13, .null, []) ::
  (86, .ifCond .eq 65, 3, 151, 0, 0, .null, []) ::
  (89, .aload_n 0, 1, 0, 0, 0, .null, []) ::
  (90, .getfield 34, 3, 11, 10, 2, .null, []) ::
  (93, .iload_n 1, 1, 0, 0, 0, .null, []) ::
  (94, .iconst 4, 1, 0, 0, 0, .int 4, []) :: am_c_MD_isText_1
def am_c_MD_read_1 : List am_E := [(85, .iastore, 1, 0, 0, 0, .null, []),
  (86, .iinc 3 1, 3, 0, 0, 0, .int 1, []),
  (89, .goto (-25), 3, 64, 0, 0, .null, []),
  (92, .aload_n 0, 1, 0, 0, 0, .null, []),
  (93, .getfield 238, 3, 11, 14, 0, .null, []),
  (96, .ireturn, 1, 0, 0, 0, .null, [])]
def am_c_MD_read : List am_E := (0, .aload_n 0, 1, 0, 0, 0, .null, []) ::
  (1, .invokevirtual 287, 3, 195, 0, 13, .null, []) ::
  (4, .istore_n 1, 1, 0, 0, 0, .null, []) ::
  (5, .aload_n 0, 1, 0, 0, 0, .null, []) ::
  (6, .invokevirtual 231, 3, 183, 0, 13, .null, []) ::
  (9, .ifCond .ne 10, 3, 19, 0, 0, .null, []) ::
  (12, .aload_n 0, 1, 0, 0, 0, .null, []) ::
  (13, .getfield 225, 3, 11, 11, 0, .null, []) ::
  (16, .goto 7, 3, 23, 0, 0, .null, []) ::
  (19, .aload_n 0, 1, 0, 0, 0, .null, []) ::
  (20, .getfield 228, 3, 11, 12, 0, .null, []) ::
  (23, .istore_n 2, 1, 0, 0, 0, .null, []) ::
  (24, .aload_n 0, 1, 0, 0, 0, .null, []) ::
  (25, .iconst 0, 1, 0, 0, 0, .int 0, []) ::
  (26, .putfield 225, 3, 11, 11, 0, .null, []) ::
  (29, .iload_n 1, 1, 0, 0, 0, .null, []) ::
  (30, .ifCond .ne 8, 3, 38, 0, 0, .null, []) ::
  (33, .bipush (-20), 2, 0, 0, 0, .int (-20), []) ::
  (35, .iload_n 2, 1, 0, 0, 0, .null, []) ::
  (36, .isub, 1, 0, 0, 0, .null, []) ::
  (37, .ireturn, 1, 0, 0, 0, .null, []) ::
  (38, .aload_n 0, 1, 0, 0, 0, .null, []) ::
  (39, .invokevirtual 176, 3, 197, 0, 13, .null, []) ::
  (42, .aload_n 0, 1, 0, 0, 0, .null, []) ::
  (43, .getfield 7, 3, 11, 0, 2, .null, []) ::
  (46, .iconst 0, 1, 0, 0, 0, .int 0, []) ::
  (47, .aload_n 0, 1, 0, 0, 0, .null, []) ::
  (48, .getfield 244, 3, 11, 13, 0, .null, []) ::
  (51, .iastore, 1, 0, 0, 0, .null, []) ::
  (52, .aload_n 0, 1, 0, 0, 0, .null, []) ::
  (53, .getfield 7, 3, 11, 0, 2, .null, []) ::
  (56, .iconst 1, 1, 0, 0, 0, .int 1, []) ::
  (57, .aload_n 0, 1, 0, 0, 0, .null, []) ::
  (58, .getfield 238, 3, 11, 14, 0, .null, []) ::
  (61, .iastore, 1, 0, 0, 0, .null, []) ::
  (62, .iconst 0, 1, 0, 0, 0, .int 0, []) ::
  (63, .istore_n 3, 1, 0, 0, 0, .null, []) ::
  (64, .iload_n 3, 1, 0, 0, 0, .null, [(0, 0)]) ::
  (65, .aload_n 0, 1, 0, 0, 0, .null, []) ::
  (66, .getfield 238, 3, 11, 14, 0, .null, []) ::
  (69, .if_icmp .ge 23, 3, 92, 0, 0, .null, []) ::
  (72, .aload_n 0, 1, 0, 0, 0, .null, []) ::
  (73, .getfield 7, 3, 11, 0, 2, .null, []) ::
  (76, .iconst 4, 1, 0, 0, 0, .int 4, []) ::
  (77, .iload_n 3, 1, 0, 0, 0, .null, []) ::
  (78, .iadd, 1, 0, 0, 0, .null, []) ::
  (79, .aload_n 0, 1, 0, 0, 0, .null, []) ::
  (80, .getfield 37, 3, 11, 15, 2, .null, []) ::
  (83, .iload_n 3, 1, 0, 0, 0, .null, []) ::
  (84, .iaload, 1, 0, 0, 0, .null, []) :: am_c_MD_read_1
def am_c_MD_notes_1 : List am_E := [(89, .return_, 1, 0, 0, 0, .null, [])]
def am_c_MD_notes : List am_E := (0, .aload_n 0, 1, 0, 0, 0, .null, []) ::
  (1, .getfield 110, 3, 11, 19, 0, .null, []) ::
  (4, .bipush 6, 2, 0, 0, 0, .int 6, []) ::
  (6, .if_icmp .ne 39, 3, 45, 0, 0, .null, []) ::
  (9, .bipush 116, 2, 0, 0, 0, .int 116, []) ::
  (11, .istore_n 1, 1, 0, 0, 0, .null, []) ::
  (12, .iload_n 1, 1, 0, 0, 0, .null, [(0, 0)]) ::
  (13, .sipush 696, 3, 0, 0, 0, .int 696, []) ::
  (16, .if_icmp .ge 24, 3, 40, 0, 0, .null, []) ::
  (19, .aload_n 0, 1, 0, 0, 0, .null, []) ::
  (20, .getfield 43, 3, 11, 18, 2, .null, []) ::
  (23, .iload_n 1, 1, 0, 0, 0, .null, []) ::
  (24, .bipush 116, 2, 0, 0, 0, .int 116, []) ::
  (26, .isub, 1, 0, 0, 0, .null, []) ::
  (27, .aload_n 0, 1, 0, 0, 0, .null, []) ::
  (28, .getfield 43, 3, 11, 18, 2, .null, []) ::
  (31, .iload_n 1, 1, 0, 0, 0, .null, []) ::
  (32, .iaload, 1, 0, 0, 0, .null, []) ::
  (33, .iastore, 1, 0, 0, 0, .null, []) ::
  (34, .iinc 1 1, 3, 0, 0, 0, .int 1, []) ::
  (37, .goto (-25), 3, 12, 0, 0, .null, []) ::
  (40, .aload_n 0, 1, 0, 0, 0, .null, []) ::
  (41, .iconst 5, 1, 0, 0, 0, .int 5, []) ::
  (42, .putfield 110, 3, 11, 19, 0, .null, []) ::
  (45, .iconst 0, 1, 0, 0, 0, .int 0, []) ::
  (46, .istore_n 1, 1, 0, 0, 0, .null, []) ::
  (47, .iload_n 1, 1, 0, 0, 0, .null, [(0, 0)]) ::
  (48, .bipush 116, 2, 0, 0, 0, .int 116, []) ::
  (50, .if_icmp .ge 29, 3, 79, 0, 0, .null, []) ::
  (53, .aload_n 0, 1, 0, 0, 0, .null, []) ::
  (54, .getfield 43, 3, 11, 18, 2, .null, []) ::
  (57, .bipush 116, 2, 0, 0, 0, .int 116, []) ::
  (59, .aload_n 0, 1, 0, 0, 0, .null, []) ::
  (60, .getfield 110, 3, 11, 19, 0, .null, []) ::
  (63, .imul, 1, 0, 0, 0, .null, []) ::
  (64, .iload_n 1, 1, 0, 0, 0, .null, []) ::
  (65, .iadd, 1, 0, 0, 0, .null, []) ::
  (66, .aload_n 0, 1, 0, 0, 0, .null, []) ::
  (67, .getfield 7, 3, 11, 0, 2, .null, []) ::
  (70, .iload_n 1, 1, 0, 0, 0, .null, []) ::
  (71, .iaload, 1, 0, 0, 0, .null, []) ::
  (72, .iastore, 1, 0, 0, 0, .null, []) ::
  (73, .iinc 1 1, 3, 0, 0, 0, .int 1, []) ::
  (76, .goto (-29), 3, 47, 0, 0, .null, []) ::
  (79, .aload_n 0, 1, 0, 0, 0, .null, []) ::
  (80, .dup, 1, 0, 0, 0, .null, []) ::
  (81, .getfield 110, 3, 11, 19, 0, .null, []) ::
  (84, .iconst 1, 1, 0, 0, 0, .int 1, []) ::
  (85, .iadd, 1, 0, 0, 0, .null, []) ::
  (86, .putfield 110, 3, 11, 19, 0, .null, []) :: am_c_MD_notes_1
def am_c_MD_undo : List am_E := [(0, .aload_n 0, 1, 0, 0, 0, .null, []),
  (1, .getfield 110, 3, 11, 19, 0, .null, []),
  (4, .ifCond .ne 6, 3, 10, 0, 0, .null, []),
  (7, .bipush (-4), 2, 0, 0, 0, .int (-4), []),
  (9, .ireturn, 1, 0, 0, 0, .null, []),
  (10, .aload_n 0, 1, 0, 0, 0, .null, []),
  (11, .dup, 1, 0, 0, 0, .null, []),
  (12, .getfield 110, 3, 11, 19, 0, .null, []),
  (15, .iconst 1, 1, 0, 0, 0, .int 1, []),
  (16, .isub, 1, 0, 0, 0, .null, []),
  (17, .putfield 110, 3, 11, 19, 0, .null, []),
  (20, .iconst 0, 1, 0, 0, 0, .int 0, []),
  (21, .istore_n 1, 1, 0, 0, 0, .null, []),
  (22, .iload_n 1, 1, 0, 0, 0, .null, [(0, 0)]),
  (23, .bipush 116, 2, 0, 0, 0, .int 116, []),
  (25, .if_icmp .ge 29, 3, 54, 0, 0, .null, []),
  (28, .aload_n 0, 1, 0, 0, 0, .null, []),
  (29, .getfield 7, 3, 11, 0, 2, .null, []),
  (32, .iload_n 1, 1, 0, 0, 0, .null, []),
  (33, .aload_n 0, 1, 0, 0, 0, .null, []),
  (34, .getfield 43, 3, 11, 18, 2, .null, []),
  (37, .bipush 116, 2, 0, 0, 0, .int 116, []),
  (39, .aload_n 0, 1, 0, 0, 0, .null, []),
  (40, .getfield 110, 3, 11, 19, 0, .null, []),
  (43, .imul, 1, 0, 0, 0, .null, []),
  (44, .iload_n 1, 1, 0, 0, 0, .null, []),
  (45, .iadd, 1, 0, 0, 0, .null, []),
  (46, .iaload, 1, 0, 0, 0, .null, []),
  (47, .iastore, 1, 0, 0, 0, .null, []),
  (48, .iinc 1 1, 3, 0, 0, 0, .int 1, []),
  (51, .goto (-29), 3, 22, 0, 0, .null, []),
  (54, .aload_n 0, 1, 0, 0, 0, .null, []),
  (55, .getfield 110, 3, 11, 19, 0, .null, []),
  (58, .ireturn, 1, 0, 0, 0, .null, [])]
def am_c_MD_image : List am_E := [(0, .iconst 0, 1, 0, 0, 0, .int 0, []),
  (1, .istore_n 1, 1, 0, 0, 0, .null, []),
  (2, .iload_n 1, 1, 0, 0, 0, .null, [(0, 0)]),
  (3, .bipush 116, 2, 0, 0, 0, .int 116, []),
  (5, .if_icmp .ge 21, 3, 26, 0, 0, .null, []),
  (8, .aload_n 0, 1, 0, 0, 0, .null, []),
  (9, .getfield 46, 3, 11, 20, 2, .null, []),
  (12, .iload_n 1, 1, 0, 0, 0, .null, []),
  (13, .aload_n 0, 1, 0, 0, 0, .null, []),
  (14, .getfield 7, 3, 11, 0, 2, .null, []),
  (17, .iload_n 1, 1, 0, 0, 0, .null, []),
  (18, .iaload, 1, 0, 0, 0, .null, []),
  (19, .iastore, 1, 0, 0, 0, .null, []),
  (20, .iinc 1 1, 3, 0, 0, 0, .int 1, []),
  (23, .goto (-21), 3, 2, 0, 0, .null, []),
  (26, .iconst 0, 1, 0, 0, 0, .int 0, []),
  (27, .istore_n 1, 1, 0, 0, 0, .null, []),
  (28, .iload_n 1, 1, 0, 0, 0, .null, [(0, 0)]),
  (29, .sipush 696, 3, 0, 0, 0, .int 696, []),
  (32, .if_icmp .ge 21, 3, 53, 0, 0, .null, []),
  (35, .aload_n 0, 1, 0, 0, 0, .null, []),
  (36, .getfield 49, 3, 11, 21, 2, .null, []),
  (39, .iload_n 1, 1, 0, 0, 0, .null, []),
  (40, .aload_n 0, 1, 0, 0, 0, .null, []),
  (41, .getfield 43, 3, 11, 18, 2, .null, []),
  (44, .iload_n 1, 1, 0, 0, 0, .null, []),
  (45, .iaload, 1, 0, 0, 0, .null, []),
  (46, .iastore, 1, 0, 0, 0, .null, []),
  (47, .iinc 1 1, 3, 0, 0, 0, .int 1, []),
  (50, .goto (-22), 3, 28, 0, 0, .null, []),
  (53, .aload_n 0, 1, 0, 0, 0, .null, []),
  (54, .aload_n 0, 1, 0, 0, 0, .null, []),
  (55, .getfield 110, 3, 11, 19, 0, .null, []),
  (58, .putfield 52, 3, 11, 22, 0, .null, []),
  (61, .iconst 1, 1, 0, 0, 0, .int 1, []),
  (62, .ireturn, 1, 0, 0, 0, .null, [])]
def am_c_MD_restore : List am_E := [(0, .aload_n 0, 1, 0, 0, 0, .null, []),
  (1, .getfield 52, 3, 11, 22, 0, .null, []),
  (4, .ifCond .ge 6, 3, 10, 0, 0, .null, []),
  (7, .bipush (-4), 2, 0, 0, 0, .int (-4), []),
  (9, .ireturn, 1, 0, 0, 0, .null, []),
  (10, .iconst 0, 1, 0, 0, 0, .int 0, []),
  (11, .istore_n 1, 1, 0, 0, 0, .null, []),
  (12, .iload_n 1, 1, 0, 0, 0, .null, [(0, 0)]),
  (13, .bipush 116, 2, 0, 0, 0, .int 116, []),
  (15, .if_icmp .ge 21, 3, 36, 0, 0, .null, []),
  (18, .aload_n 0, 1, 0, 0, 0, .null, []),
  (19, .getfield 7, 3, 11, 0, 2, .null, []),
  (22, .iload_n 1, 1, 0, 0, 0, .null, []),
  (23, .aload_n 0, 1, 0, 0, 0, .null, []),
  (24, .getfield 46, 3, 11, 20, 2, .null, []),
  (27, .iload_n 1, 1, 0, 0, 0, .null, []),
  (28, .iaload, 1, 0, 0, 0, .null, []),
  (29, .iastore, 1, 0, 0, 0, .null, []),
  (30, .iinc 1 1, 3, 0, 0, 0, .int 1, []),
  (33, .goto (-21), 3, 12, 0, 0, .null, []),
  (36, .iconst 0, 1, 0, 0, 0, .int 0, []),
  (37, .istore_n 1, 1, 0, 0, 0, .null, []),
  (38, .iload_n 1, 1, 0, 0, 0, .null, [(0, 0)]),
  (39, .sipush 696, 3, 0, 0, 0, .int 696, []),
  (42, .if_icmp .ge 21, 3, 63, 0, 0, .null, []),
  (45, .aload_n 0, 1, 0, 0, 0, .null, []),
  (46, .getfield 43, 3, 11, 18, 2, .null, []),
  (49, .iload_n 1, 1, 0, 0, 0, .null, []),
  (50, .aload_n 0, 1, 0, 0, 0, .null, []),
  (51, .getfield 49, 3, 11, 21, 2, .null, []),
  (54, .iload_n 1, 1, 0, 0, 0, .null, []),
  (55, .iaload, 1, 0, 0, 0, .null, []),
  (56, .iastore, 1, 0, 0, 0, .null, []),
  (57, .iinc 1 1, 3, 0, 0, 0, .int 1, []),
  (60, .goto (-22), 3, 38, 0, 0, .null, []),
  (63, .aload_n 0, 1, 0, 0, 0, .null, []),
  (64, .aload_n 0, 1, 0, 0, 0, .null, []),
  (65, .getfield 52, 3, 11, 22, 0, .null, []),
  (68, .putfield 110, 3, 11, 19, 0, .null, []),
  (71, .iconst 1, 1, 0, 0, 0, .int 1, []),
  (72, .ireturn, 1, 0, 0, 0, .null, [])]
def am_c_MD_isSheet : List am_E := [(0, .iload_n 0, 1, 0, 0, 0, .null, []),
  (1, .i2l, 1, 0, 0, 0, .null, []),
  (2, .lconst 0, 1, 0, 0, 0, .long 0, []),
  (3, .ldc2_w 161, 3, 0, 0, 0, .long 3, []),
  (6, .invokestatic 76, 3, 131, 3, 0, .null, []),
  (9, .ireturn, 1, 0, 0, 0, .null, [])]
def am_c_MD_cut : List am_E := [(0, .iload_n 2, 1, 0, 0, 0, .null, []),
  (1, .ifCond .ne 10, 3, 11, 0, 0, .null, []),
  (4, .lload_n 0, 1, 0, 0, 0, .null, []),
  (5, .l2i, 1, 0, 0, 0, .null, []),
  (6, .i2b, 1, 0, 0, 0, .null, []),
  (7, .i2l, 1, 0, 0, 0, .null, []),
  (8, .goto 27, 3, 35, 0, 0, .null, []),
  (11, .iload_n 2, 1, 0, 0, 0, .null, []),
  (12, .iconst 1, 1, 0, 0, 0, .int 1, []),
  (13, .if_icmp .ne 10, 3, 23, 0, 0, .null, []),
  (16, .lload_n 0, 1, 0, 0, 0, .null, []),
  (17, .l2i, 1, 0, 0, 0, .null, []),
  (18, .i2s, 1, 0, 0, 0, .null, []),
  (19, .i2l, 1, 0, 0, 0, .null, []),
  (20, .goto 15, 3, 35, 0, 0, .null, []),
  (23, .iload_n 2, 1, 0, 0, 0, .null, []),
  (24, .iconst 2, 1, 0, 0, 0, .int 2, []),
  (25, .if_icmp .ne 9, 3, 34, 0, 0, .null, []),
  (28, .lload_n 0, 1, 0, 0, 0, .null, []),
  (29, .l2i, 1, 0, 0, 0, .null, []),
  (30, .i2l, 1, 0, 0, 0, .null, []),
  (31, .goto 4, 3, 35, 0, 0, .null, []),
  (34, .lload_n 0, 1, 0, 0, 0, .null, []),
  (35, .lreturn, 1, 0, 0, 0, .null, [])]
def am_c_MD_sheet : List am_E := [(0, .iload_n 1, 1, 0, 0, 0, .null, []),
  (1, .invokestatic 169, 3, 201, 1, 0, .null, []),
  (4, .ifCond .eq 21, 3, 25, 0, 0, .null, []),
  (7, .iload_n 2, 1, 0, 0, 0, .null, []),
  (8, .i2l, 1, 0, 0, 0, .null, []),
  (9, .lconst 0, 1, 0, 0, 0, .long 0, []),
  (10, .ldc2_w 161, 3, 0, 0, 0, .long 3, []),
  (13, .invokestatic 76, 3, 131, 3, 0, .null, []),
  (16, .ifCond .eq 9, 3, 25, 0, 0, .null, []),
  (19, .iload_n 3, 1, 0, 0, 0, .null, []),
  (20, .bipush 24, 2, 0, 0, 0, .int 24, []),
  (22, .if_icmp .le 5, 3, 27, 0, 0, .null, []),
  (25, .iconst (-1), 1, 0, 0, 0, .int (-1), []),
  (26, .ireturn, 1, 0, 0, 0, .null, []),
  (27, .iload_n 3, 1, 0, 0, 0, .null, []),
  (28, .ifCond .ge 6, 3, 34, 0, 0, .null, []),
  (31, .bipush (-14), 2, 0, 0, 0, .int (-14), []),
  (33, .ireturn, 1, 0, 0, 0, .null, []),
  (34, .aload_n 0, 1, 0, 0, 0, .null, []),
  (35, .getfield 56, 3, 11, 23, 2, .null, []),
  (38, .iload_n 1, 1, 0, 0, 0, .null, []),
  (39, .iload_n 2, 1, 0, 0, 0, .null, []),
  (40, .iastore, 1, 0, 0, 0, .null, []),
  (41, .aload_n 0, 1, 0, 0, 0, .null, []),
  (42, .getfield 59, 3, 11, 24, 2, .null, []),
  (45, .iload_n 1, 1, 0, 0, 0, .null, []),
  (46, .iload_n 3, 1, 0, 0, 0, .null, []),
  (47, .iastore, 1, 0, 0, 0, .null, []),
  (48, .iconst 0, 1, 0, 0, 0, .int 0, []),
  (49, .istore 4, 2, 0, 0, 0, .null, []),
  (51, .iload 4, 2, 0, 0, 0, .null, [(0, 0)]),
  (53, .bipush 24, 2, 0, 0, 0, .int 24, []),
  (55, .if_icmp .ge 22, 3, 77, 0, 0, .null, []),
  (58, .aload_n 0, 1, 0, 0, 0, .null, []),
  (59, .getfield 62, 3, 11, 25, 2, .null, []),
  (62, .bipush 24, 2, 0, 0, 0, .int 24, []),
  (64, .iload_n 1, 1, 0, 0, 0, .null, []),
  (65, .imul, 1, 0, 0, 0, .null, []),
  (66, .iload 4, 2, 0, 0, 0, .null, []),
  (68, .iadd, 1, 0, 0, 0, .null, []),
  (69, .lconst 0, 1, 0, 0, 0, .long 0, []),
  (70, .lastore, 1, 0, 0, 0, .null, []),
  (71, .iinc 4 1, 3, 0, 0, 0, .int 1, []),
  (74, .goto (-23), 3, 51, 0, 0, .null, []),
  (77, .iload_n 3, 1, 0, 0, 0, .null, []),
  (78, .ireturn, 1, 0, 0, 0, .null, [])]
def am_c_MD_drop : List am_E := [(0, .iload_n 1, 1, 0, 0, 0, .null, []),
  (1, .invokestatic 169, 3, 201, 1, 0, .null, []),
  (4, .ifCond .ne 5, 3, 9, 0, 0, .null, []),
  (7, .iconst (-1), 1, 0, 0, 0, .int (-1), []),
  (8, .ireturn, 1, 0, 0, 0, .null, []),
  (9, .aload_n 0, 1, 0, 0, 0, .null, []),
  (10, .getfield 56, 3, 11, 23, 2, .null, []),
  (13, .iload_n 1, 1, 0, 0, 0, .null, []),
  (14, .iaload, 1, 0, 0, 0, .null, []),
  (15, .ifCond .ge 6, 3, 21, 0, 0, .null, []),
  (18, .bipush (-11), 2, 0, 0, 0, .int (-11), []),
  (20, .ireturn, 1, 0, 0, 0, .null, []),
  (21, .aload_n 0, 1, 0, 0, 0, .null, []),
  (22, .getfield 56, 3, 11, 23, 2, .null, []),
  (25, .iload_n 1, 1, 0, 0, 0, .null, []),
  (26, .iconst (-1), 1, 0, 0, 0, .int (-1), []),
  (27, .iastore, 1, 0, 0, 0, .null, []),
  (28, .aload_n 0, 1, 0, 0, 0, .null, []),
  (29, .getfield 59, 3, 11, 24, 2, .null, []),
  (32, .iload_n 1, 1, 0, 0, 0, .null, []),
  (33, .iaload, 1, 0, 0, 0, .null, []),
  (34, .ireturn, 1, 0, 0, 0, .null, [])]
def am_c_MD_why : List am_E := [(0, .aload_n 0, 1, 0, 0, 0, .null, []),
  (1, .getfield 56, 3, 11, 23, 2, .null, []),
  (4, .iload_n 1, 1, 0, 0, 0, .null, []),
  (5, .iaload, 1, 0, 0, 0, .null, []),
  (6, .ifCond .ge 6, 3, 12, 0, 0, .null, []),
  (9, .bipush (-11), 2, 0, 0, 0, .int (-11), []),
  (11, .ireturn, 1, 0, 0, 0, .null, []),
  (12, .aload_n 0, 1, 0, 0, 0, .null, []),
  (13, .getfield 56, 3, 11, 23, 2, .null, []),
  (16, .iload_n 1, 1, 0, 0, 0, .null, []),
  (17, .iaload, 1, 0, 0, 0, .null, []),
  (18, .iload_n 2, 1, 0, 0, 0, .null, []),
  (19, .if_icmp .eq 6, 3, 25, 0, 0, .null, []),
  (22, .bipush (-12), 2, 0, 0, 0, .int (-12), []),
  (24, .ireturn, 1, 0, 0, 0, .null, []),
  (25, .iload_n 3, 1, 0, 0, 0, .null, []),
  (26, .ifCond .lt 16, 3, 42, 0, 0, .null, []),
  (29, .iload 4, 2, 0, 0, 0, .null, []),
  (31, .aload_n 0, 1, 0, 0, 0, .null, []),
  (32, .getfield 59, 3, 11, 24, 2, .null, []),
  (35, .iload_n 1, 1, 0, 0, 0, .null, []),
  (36, .iaload, 1, 0, 0, 0, .null, []),
  (37, .iload_n 3, 1, 0, 0, 0, .null, []),
  (38, .isub, 1, 0, 0, 0, .null, []),
  (39, .if_icmp .le 8, 3, 47, 0, 0, .null, []),
  (42, .bipush (-13), 2, 0, 0, 0, .int (-13), []),
  (44, .goto 4, 3, 48, 0, 0, .null, []),
  (47, .iconst 0, 1, 0, 0, 0, .int 0, []),
  (48, .ireturn, 1, 0, 0, 0, .null, [])]
def am_c_MD_item : List am_E := [(0, .iload_n 1, 1, 0, 0, 0, .null, []),
  (1, .invokestatic 169, 3, 201, 1, 0, .null, []),
  (4, .ifCond .eq 15, 3, 19, 0, 0, .null, []),
  (7, .iload_n 2, 1, 0, 0, 0, .null, []),
  (8, .i2l, 1, 0, 0, 0, .null, []),
  (9, .lconst 0, 1, 0, 0, 0, .long 0, []),
  (10, .ldc2_w 161, 3, 0, 0, 0, .long 3, []),
  (13, .invokestatic 76, 3, 131, 3, 0, .null, []),
  (16, .ifCond .ne 5, 3, 21, 0, 0, .null, []),
  (19, .iconst (-1), 1, 0, 0, 0, .int (-1), []),
  (20, .ireturn, 1, 0, 0, 0, .null, []),
  (21, .aload_n 0, 1, 0, 0, 0, .null, []),
  (22, .iload_n 1, 1, 0, 0, 0, .null, []),
  (23, .iload_n 2, 1, 0, 0, 0, .null, []),
  (24, .iload_n 3, 1, 0, 0, 0, .null, []),
  (25, .iconst 1, 1, 0, 0, 0, .int 1, []),
  (26, .invokevirtual 172, 3, 205, 4, 13, .null, []),
  (29, .istore 6, 2, 0, 0, 0, .null, []),
  (31, .iload 6, 2, 0, 0, 0, .null, []),
  (33, .ifCond .ge 6, 3, 39, 0, 0, .null, []),
  (36, .iload 6, 2, 0, 0, 0, .null, []),
  (38, .ireturn, 1, 0, 0, 0, .null, []),
  (39, .aload_n 0, 1, 0, 0, 0, .null, []),
  (40, .getfield 62, 3, 11, 25, 2, .null, []),
  (43, .bipush 24, 2, 0, 0, 0, .int 24, []),
  (45, .iload_n 1, 1, 0, 0, 0, .null, []),
  (46, .imul, 1, 0, 0, 0, .null, []),
  (47, .iload_n 3, 1, 0, 0, 0, .null, []),
  (48, .iadd, 1, 0, 0, 0, .null, []),
  (49, .lload 4, 2, 0, 0, 0, .null, []),
  (51, .iload_n 2, 1, 0, 0, 0, .null, []),
  (52, .invokestatic 290, 3, 202, 2, 0, .null, []),
  (55, .lastore, 1, 0, 0, 0, .null, []),
  (56, .iconst 1, 1, 0, 0, 0, .int 1, []),
  (57, .ireturn, 1, 0, 0, 0, .null, [])]
def am_c_MD_copy_2 : List am_E := [(172, .iload 6, 2, 0, 0, 0, .null, []),
  (174, .laload, 1, 0, 0, 0, .null, []),
  (175, .lastore, 1, 0, 0, 0, .null, []),
  (176, .iinc 6 1, 3, 0, 0, 0, .int 1, []),
  (179, .goto (-32), 3, 147, 0, 0, .null, []),
  (182, .iload 5, 2, 0, 0, 0, .null, []),
  (184, .ireturn, 1, 0, 0, 0, .null, [])]
def am_c_MD_copy_1 : List am_E := (88, .i2l, 1, 0, 0, 0, .null, []) ::
  (89, .iload 5, 2, 0, 0, 0, .null, []) ::
  (91, .i2l, 1, 0, 0, 0, .null, []) ::
  (92, .ladd, 1, 0, 0, 0, .null, []) ::
  (93, .aload_n 0, 1, 0, 0, 0, .null, []) ::
  (94, .getfield 59, 3, 11, 24, 2, .null, []) ::
  (97, .iload_n 3, 1, 0, 0, 0, .null, []) ::
  (98, .iaload, 1, 0, 0, 0, .null, []) ::
  (99, .i2l, 1, 0, 0, 0, .null, []) ::
  (100, .lcmp, 1, 0, 0, 0, .null, []) ::
  (101, .ifCond .le 6, 3, 107, 0, 0, .null, []) ::
  (104, .bipush (-13), 2, 0, 0, 0, .int (-13), []) ::
  (106, .ireturn, 1, 0, 0, 0, .null, []) ::
  (107, .iconst 0, 1, 0, 0, 0, .int 0, []) ::
  (108, .istore 6, 2, 0, 0, 0, .null, []) ::
  (110, .iload 6, 2, 0, 0, 0, .null, [(0, 0)]) ::
  (112, .iload 5, 2, 0, 0, 0, .null, []) ::
  (114, .if_icmp .ge 30, 3, 144, 0, 0, .null, []) ::
  (117, .aload_n 0, 1, 0, 0, 0, .null, []) ::
  (118, .getfield 66, 3, 11, 26, 2, .null, []) ::
  (121, .iload 6, 2, 0, 0, 0, .null, []) ::
  (123, .aload_n 0, 1, 0, 0, 0, .null, []) ::
  (124, .getfield 62, 3, 11, 25, 2, .null, []) ::
  (127, .bipush 24, 2, 0, 0, 0, .int 24, []) ::
  (129, .iload_n 1, 1, 0, 0, 0, .null, []) ::
  (130, .imul, 1, 0, 0, 0, .null, []) ::
  (131, .iload_n 2, 1, 0, 0, 0, .null, []) ::
  (132, .iadd, 1, 0, 0, 0, .null, []) ::
  (133, .iload 6, 2, 0, 0, 0, .null, []) ::
  (135, .iadd, 1, 0, 0, 0, .null, []) ::
  (136, .laload, 1, 0, 0, 0, .null, []) ::
  (137, .lastore, 1, 0, 0, 0, .null, []) ::
  (138, .iinc 6 1, 3, 0, 0, 0, .int 1, []) ::
  (141, .goto (-31), 3, 110, 0, 0, .null, []) ::
  (144, .iconst 0, 1, 0, 0, 0, .int 0, []) ::
  (145, .istore 6, 2, 0, 0, 0, .null, []) ::
  (147, .iload 6, 2, 0, 0, 0, .null, [(0, 0)]) ::
  (149, .iload 5, 2, 0, 0, 0, .null, []) ::
  (151, .if_icmp .ge 31, 3, 182, 0, 0, .null, []) ::
  (154, .aload_n 0, 1, 0, 0, 0, .null, []) ::
  (155, .getfield 62, 3, 11, 25, 2, .null, []) ::
  (158, .bipush 24, 2, 0, 0, 0, .int 24, []) ::
  (160, .iload_n 3, 1, 0, 0, 0, .null, []) ::
  (161, .imul, 1, 0, 0, 0, .null, []) ::
  (162, .iload 4, 2, 0, 0, 0, .null, []) ::
  (164, .iadd, 1, 0, 0, 0, .null, []) ::
  (165, .iload 6, 2, 0, 0, 0, .null, []) ::
  (167, .iadd, 1, 0, 0, 0, .null, []) ::
  (168, .aload_n 0, 1, 0, 0, 0, .null, []) ::
  (169, .getfield 66, 3, 11, 26, 2, .null, []) :: am_c_MD_copy_2
def am_c_MD_copy : List am_E := (0, .iload_n 1, 1, 0, 0, 0, .null, []) ::
  (1, .invokestatic 169, 3, 201, 1, 0, .null, []) ::
  (4, .ifCond .eq 10, 3, 14, 0, 0, .null, []) ::
  (7, .iload_n 3, 1, 0, 0, 0, .null, []) ::
  (8, .invokestatic 169, 3, 201, 1, 0, .null, []) ::
  (11, .ifCond .ne 5, 3, 16, 0, 0, .null, []) ::
  (14, .iconst (-1), 1, 0, 0, 0, .int (-1), []) ::
  (15, .ireturn, 1, 0, 0, 0, .null, []) ::
  (16, .aload_n 0, 1, 0, 0, 0, .null, []) ::
  (17, .getfield 56, 3, 11, 23, 2, .null, []) ::
  (20, .iload_n 1, 1, 0, 0, 0, .null, []) ::
  (21, .iaload, 1, 0, 0, 0, .null, []) ::
  (22, .ifCond .lt 12, 3, 34, 0, 0, .null, []) ::
  (25, .aload_n 0, 1, 0, 0, 0, .null, []) ::
  (26, .getfield 56, 3, 11, 23, 2, .null, []) ::
  (29, .iload_n 3, 1, 0, 0, 0, .null, []) ::
  (30, .iaload, 1, 0, 0, 0, .null, []) ::
  (31, .ifCond .ge 6, 3, 37, 0, 0, .null, []) ::
  (34, .bipush (-11), 2, 0, 0, 0, .int (-11), []) ::
  (36, .ireturn, 1, 0, 0, 0, .null, []) ::
  (37, .aload_n 0, 1, 0, 0, 0, .null, []) ::
  (38, .getfield 56, 3, 11, 23, 2, .null, []) ::
  (41, .iload_n 1, 1, 0, 0, 0, .null, []) ::
  (42, .iaload, 1, 0, 0, 0, .null, []) ::
  (43, .aload_n 0, 1, 0, 0, 0, .null, []) ::
  (44, .getfield 56, 3, 11, 23, 2, .null, []) ::
  (47, .iload_n 3, 1, 0, 0, 0, .null, []) ::
  (48, .iaload, 1, 0, 0, 0, .null, []) ::
  (49, .if_icmp .eq 6, 3, 55, 0, 0, .null, []) ::
  (52, .bipush (-12), 2, 0, 0, 0, .int (-12), []) ::
  (54, .ireturn, 1, 0, 0, 0, .null, []) ::
  (55, .iload 5, 2, 0, 0, 0, .null, []) ::
  (57, .ifCond .lt 47, 3, 104, 0, 0, .null, []) ::
  (60, .iload_n 2, 1, 0, 0, 0, .null, []) ::
  (61, .ifCond .lt 43, 3, 104, 0, 0, .null, []) ::
  (64, .iload 4, 2, 0, 0, 0, .null, []) ::
  (66, .ifCond .lt 38, 3, 104, 0, 0, .null, []) ::
  (69, .iload_n 2, 1, 0, 0, 0, .null, []) ::
  (70, .i2l, 1, 0, 0, 0, .null, []) ::
  (71, .iload 5, 2, 0, 0, 0, .null, []) ::
  (73, .i2l, 1, 0, 0, 0, .null, []) ::
  (74, .ladd, 1, 0, 0, 0, .null, []) ::
  (75, .aload_n 0, 1, 0, 0, 0, .null, []) ::
  (76, .getfield 59, 3, 11, 24, 2, .null, []) ::
  (79, .iload_n 1, 1, 0, 0, 0, .null, []) ::
  (80, .iaload, 1, 0, 0, 0, .null, []) ::
  (81, .i2l, 1, 0, 0, 0, .null, []) ::
  (82, .lcmp, 1, 0, 0, 0, .null, []) ::
  (83, .ifCond .gt 21, 3, 104, 0, 0, .null, []) ::
  (86, .iload 4, 2, 0, 0, 0, .null, []) :: am_c_MD_copy_1
def am_c_MD_row : List am_E := [(0, .aload_n 0, 1, 0, 0, 0, .null, []),
  (1, .getfield 62, 3, 11, 25, 2, .null, []),
  (4, .iload_n 1, 1, 0, 0, 0, .null, []),
  (5, .iload_n 2, 1, 0, 0, 0, .null, []),
  (6, .iadd, 1, 0, 0, 0, .null, []),
  (7, .laload, 1, 0, 0, 0, .null, []),
  (8, .l2i, 1, 0, 0, 0, .null, []),
  (9, .ireturn, 1, 0, 0, 0, .null, [])]
def am_c_MD_ofTwo_1 : List am_E := [(95, .iconst 1, 1, 0, 0, 0, .int 1, []),
  (96, .goto 4, 3, 100, 0, 0, .null, []),
  (99, .iconst 0, 1, 0, 0, 0, .int 0, []),
  (100, .istore 9, 2, 0, 0, 0, .null, []),
  (102, .iload 4, 2, 0, 0, 0, .null, []),
  (104, .ifCond .eq 19, 3, 123, 0, 0, .null, []),
  (107, .iload 5, 2, 0, 0, 0, .null, []),
  (109, .iload 6, 2, 0, 0, 0, .null, []),
  (111, .if_icmp .eq 8, 3, 119, 0, 0, .null, []),
  (114, .iload 9, 2, 0, 0, 0, .null, []),
  (116, .ifCond .eq 7, 3, 123, 0, 0, .null, []),
  (119, .iconst 1, 1, 0, 0, 0, .int 1, []),
  (120, .goto 4, 3, 124, 0, 0, .null, []),
  (123, .iconst 0, 1, 0, 0, 0, .int 0, []),
  (124, .istore 4, 2, 0, 0, 0, .null, []),
  (126, .iinc 6 1, 3, 0, 0, 0, .int 1, []),
  (129, .goto (-114), 3, 15, 0, 0, .null, []),
  (132, .iinc 5 1, 3, 0, 0, 0, .int 1, []),
  (135, .goto (-129), 3, 6, 0, 0, .null, []),
  (138, .iload 4, 2, 0, 0, 0, .null, []),
  (140, .ireturn, 1, 0, 0, 0, .null, [])]
def am_c_MD_ofTwo : List am_E := (0, .iconst 1, 1, 0, 0, 0, .int 1, []) ::
  (1, .istore 4, 2, 0, 0, 0, .null, []) ::
  (3, .iconst 0, 1, 0, 0, 0, .int 0, []) ::
  (4, .istore 5, 2, 0, 0, 0, .null, []) ::
  (6, .iload 5, 2, 0, 0, 0, .null, [(0, 0)]) ::
  (8, .iload_n 2, 1, 0, 0, 0, .null, []) ::
  (9, .if_icmp .ge 129, 3, 138, 0, 0, .null, []) ::
  (12, .iconst 0, 1, 0, 0, 0, .int 0, []) ::
  (13, .istore 6, 2, 0, 0, 0, .null, []) ::
  (15, .iload 6, 2, 0, 0, 0, .null, [(0, 0)]) ::
  (17, .iload_n 2, 1, 0, 0, 0, .null, []) ::
  (18, .if_icmp .ge 114, 3, 132, 0, 0, .null, []) ::
  (21, .aload_n 0, 1, 0, 0, 0, .null, []) ::
  (22, .iload_n 1, 1, 0, 0, 0, .null, []) ::
  (23, .iload 5, 2, 0, 0, 0, .null, []) ::
  (25, .invokevirtual 294, 3, 208, 2, 13, .null, []) ::
  (28, .istore 7, 2, 0, 0, 0, .null, []) ::
  (30, .aload_n 0, 1, 0, 0, 0, .null, []) ::
  (31, .iload_n 1, 1, 0, 0, 0, .null, []) ::
  (32, .iload 6, 2, 0, 0, 0, .null, []) ::
  (34, .invokevirtual 294, 3, 208, 2, 13, .null, []) ::
  (37, .istore 8, 2, 0, 0, 0, .null, []) ::
  (39, .iload_n 3, 1, 0, 0, 0, .null, []) ::
  (40, .ifCond .ne 19, 3, 59, 0, 0, .null, []) ::
  (43, .iload 7, 2, 0, 0, 0, .null, []) ::
  (45, .iload 8, 2, 0, 0, 0, .null, []) ::
  (47, .iand, 1, 0, 0, 0, .null, []) ::
  (48, .ifCond .eq 7, 3, 55, 0, 0, .null, []) ::
  (51, .iconst 1, 1, 0, 0, 0, .int 1, []) ::
  (52, .goto 48, 3, 100, 0, 0, .null, []) ::
  (55, .iconst 0, 1, 0, 0, 0, .int 0, []) ::
  (56, .goto 44, 3, 100, 0, 0, .null, []) ::
  (59, .iload_n 3, 1, 0, 0, 0, .null, []) ::
  (60, .iconst 1, 1, 0, 0, 0, .int 1, []) ::
  (61, .if_icmp .ne 21, 3, 82, 0, 0, .null, []) ::
  (64, .iload 7, 2, 0, 0, 0, .null, []) ::
  (66, .iload 8, 2, 0, 0, 0, .null, []) ::
  (68, .iconst (-1), 1, 0, 0, 0, .int (-1), []) ::
  (69, .ixor, 1, 0, 0, 0, .null, []) ::
  (70, .iand, 1, 0, 0, 0, .null, []) ::
  (71, .ifCond .eq 7, 3, 78, 0, 0, .null, []) ::
  (74, .iconst 1, 1, 0, 0, 0, .int 1, []) ::
  (75, .goto 25, 3, 100, 0, 0, .null, []) ::
  (78, .iconst 0, 1, 0, 0, 0, .int 0, []) ::
  (79, .goto 21, 3, 100, 0, 0, .null, []) ::
  (82, .iload 7, 2, 0, 0, 0, .null, []) ::
  (84, .invokestatic 73, 3, 134, 1, 0, .null, []) ::
  (87, .iload 8, 2, 0, 0, 0, .null, []) ::
  (89, .invokestatic 73, 3, 134, 1, 0, .null, []) ::
  (92, .if_icmp .ne 7, 3, 99, 0, 0, .null, []) :: am_c_MD_ofTwo_1
def am_c_MD_isEven_1 : List am_E := [(96, .goto (-88), 3, 8, 0, 0, .null, []),
  (99, .iload_n 3, 1, 0, 0, 0, .null, []),
  (100, .ireturn, 1, 0, 0, 0, .null, [])]
def am_c_MD_isEven : List am_E := (0, .iconst 1, 1, 0, 0, 0, .int 1, []) ::
  (1, .istore_n 3, 1, 0, 0, 0, .null, []) ::
  (2, .iconst 0, 1, 0, 0, 0, .int 0, []) ::
  (3, .istore 4, 2, 0, 0, 0, .null, []) ::
  (5, .iconst 0, 1, 0, 0, 0, .int 0, []) ::
  (6, .istore 5, 2, 0, 0, 0, .null, []) ::
  (8, .iload 5, 2, 0, 0, 0, .null, [(0, 0)]) ::
  (10, .aload_n 0, 1, 0, 0, 0, .null, []) ::
  (11, .getfield 7, 3, 11, 0, 2, .null, []) ::
  (14, .iconst 0, 1, 0, 0, 0, .int 0, []) ::
  (15, .iaload, 1, 0, 0, 0, .null, []) ::
  (16, .if_icmp .ge 83, 3, 99, 0, 0, .null, []) ::
  (19, .iconst 0, 1, 0, 0, 0, .int 0, []) ::
  (20, .istore 6, 2, 0, 0, 0, .null, []) ::
  (22, .iconst 0, 1, 0, 0, 0, .int 0, []) ::
  (23, .istore 7, 2, 0, 0, 0, .null, []) ::
  (25, .iload 7, 2, 0, 0, 0, .null, [(0, 0)]) ::
  (27, .iload_n 2, 1, 0, 0, 0, .null, []) ::
  (28, .if_icmp .ge 34, 3, 62, 0, 0, .null, []) ::
  (31, .iload 6, 2, 0, 0, 0, .null, []) ::
  (33, .aload_n 0, 1, 0, 0, 0, .null, []) ::
  (34, .iload_n 1, 1, 0, 0, 0, .null, []) ::
  (35, .iload 7, 2, 0, 0, 0, .null, []) ::
  (37, .invokevirtual 294, 3, 208, 2, 13, .null, []) ::
  (40, .iload 5, 2, 0, 0, 0, .null, []) ::
  (42, .invokestatic 91, 3, 133, 2, 0, .null, []) ::
  (45, .ifCond .eq 7, 3, 52, 0, 0, .null, []) ::
  (48, .iconst 1, 1, 0, 0, 0, .int 1, []) ::
  (49, .goto 4, 3, 53, 0, 0, .null, []) ::
  (52, .iconst 0, 1, 0, 0, 0, .int 0, []) ::
  (53, .iadd, 1, 0, 0, 0, .null, []) ::
  (54, .istore 6, 2, 0, 0, 0, .null, []) ::
  (56, .iinc 7 1, 3, 0, 0, 0, .int 1, []) ::
  (59, .goto (-34), 3, 25, 0, 0, .null, []) ::
  (62, .iload 5, 2, 0, 0, 0, .null, []) ::
  (64, .ifCond .ne 8, 3, 72, 0, 0, .null, []) ::
  (67, .iload 6, 2, 0, 0, 0, .null, []) ::
  (69, .goto 5, 3, 74, 0, 0, .null, []) ::
  (72, .iload 4, 2, 0, 0, 0, .null, []) ::
  (74, .istore 4, 2, 0, 0, 0, .null, []) ::
  (76, .iload_n 3, 1, 0, 0, 0, .null, []) ::
  (77, .ifCond .eq 14, 3, 91, 0, 0, .null, []) ::
  (80, .iload 6, 2, 0, 0, 0, .null, []) ::
  (82, .iload 4, 2, 0, 0, 0, .null, []) ::
  (84, .if_icmp .ne 7, 3, 91, 0, 0, .null, []) ::
  (87, .iconst 1, 1, 0, 0, 0, .int 1, []) ::
  (88, .goto 4, 3, 92, 0, 0, .null, []) ::
  (91, .iconst 0, 1, 0, 0, 0, .int 0, []) ::
  (92, .istore_n 3, 1, 0, 0, 0, .null, []) ::
  (93, .iinc 5 1, 3, 0, 0, 0, .int 1, []) :: am_c_MD_isEven_1
def am_c_MD_isJust : List am_E := [(0, .iload_n 2, 1, 0, 0, 0, .null, []),
  (1, .aload_n 0, 1, 0, 0, 0, .null, []),
  (2, .getfield 7, 3, 11, 0, 2, .null, []),
  (5, .iconst 1, 1, 0, 0, 0, .int 1, []),
  (6, .iaload, 1, 0, 0, 0, .null, []),
  (7, .if_icmp .ne 7, 3, 14, 0, 0, .null, []),
  (10, .iconst 1, 1, 0, 0, 0, .int 1, []),
  (11, .goto 4, 3, 15, 0, 0, .null, []),
  (14, .iconst 0, 1, 0, 0, 0, .int 0, []),
  (15, .istore_n 3, 1, 0, 0, 0, .null, []),
  (16, .iconst 0, 1, 0, 0, 0, .int 0, []),
  (17, .istore 4, 2, 0, 0, 0, .null, []),
  (19, .iconst 0, 1, 0, 0, 0, .int 0, []),
  (20, .istore 5, 2, 0, 0, 0, .null, []),
  (22, .iload 5, 2, 0, 0, 0, .null, [(0, 0)]),
  (24, .iload_n 2, 1, 0, 0, 0, .null, []),
  (25, .if_icmp .ge 64, 3, 89, 0, 0, .null, []),
  (28, .iload_n 3, 1, 0, 0, 0, .null, []),
  (29, .ifCond .eq 60, 3, 89, 0, 0, .null, []),
  (32, .aload_n 0, 1, 0, 0, 0, .null, []),
  (33, .aload_n 0, 1, 0, 0, 0, .null, []),
  (34, .iload_n 1, 1, 0, 0, 0, .null, []),
  (35, .iload 5, 2, 0, 0, 0, .null, []),
  (37, .invokevirtual 294, 3, 208, 2, 13, .null, []),
  (40, .invokevirtual 200, 3, 137, 1, 13, .null, []),
  (43, .istore 6, 2, 0, 0, 0, .null, []),
  (45, .iload 6, 2, 0, 0, 0, .null, []),
  (47, .ifCond .lt 17, 3, 64, 0, 0, .null, []),
  (50, .iload 4, 2, 0, 0, 0, .null, []),
  (52, .iload 6, 2, 0, 0, 0, .null, []),
  (54, .invokestatic 91, 3, 133, 2, 0, .null, []),
  (57, .ifCond .ne 7, 3, 64, 0, 0, .null, []),
  (60, .iconst 1, 1, 0, 0, 0, .int 1, []),
  (61, .goto 4, 3, 65, 0, 0, .null, []),
  (64, .iconst 0, 1, 0, 0, 0, .int 0, []),
  (65, .istore_n 3, 1, 0, 0, 0, .null, []),
  (66, .iload 4, 2, 0, 0, 0, .null, []),
  (68, .iload_n 3, 1, 0, 0, 0, .null, []),
  (69, .ifCond .eq 10, 3, 79, 0, 0, .null, []),
  (72, .iconst 1, 1, 0, 0, 0, .int 1, []),
  (73, .iload 6, 2, 0, 0, 0, .null, []),
  (75, .ishl, 1, 0, 0, 0, .null, []),
  (76, .goto 4, 3, 80, 0, 0, .null, []),
  (79, .iconst 0, 1, 0, 0, 0, .int 0, []),
  (80, .ior, 1, 0, 0, 0, .null, []),
  (81, .istore 4, 2, 0, 0, 0, .null, []),
  (83, .iinc 5 1, 3, 0, 0, 0, .int 1, []),
  (86, .goto (-64), 3, 22, 0, 0, .null, []),
  (89, .iload_n 3, 1, 0, 0, 0, .null, []),
  (90, .ireturn, 1, 0, 0, 0, .null, [])]
def am_c_MD_what_1 : List am_E := [(90, .ifCond .ne 6, 3, 96, 0, 0, .null, []),
  (93, .bipush (-2), 2, 0, 0, 0, .int (-2), []),
  (95, .ireturn, 1, 0, 0, 0, .null, []),
  (96, .iinc 7 1, 3, 0, 0, 0, .int 1, []),
  (99, .goto (-35), 3, 64, 0, 0, .null, []),
  (102, .iconst 0, 1, 0, 0, 0, .int 0, []),
  (103, .istore 7, 2, 0, 0, 0, .null, []),
  (105, .iconst 0, 1, 0, 0, 0, .int 0, []),
  (106, .istore 8, 2, 0, 0, 0, .null, []),
  (108, .iload 8, 2, 0, 0, 0, .null, [(0, 0)]),
  (110, .iconst 3, 1, 0, 0, 0, .int 3, []),
  (111, .if_icmp .ge 35, 3, 146, 0, 0, .null, []),
  (114, .iload 7, 2, 0, 0, 0, .null, []),
  (116, .aload_n 0, 1, 0, 0, 0, .null, []),
  (117, .iload 6, 2, 0, 0, 0, .null, []),
  (119, .iload 4, 2, 0, 0, 0, .null, []),
  (121, .iload 8, 2, 0, 0, 0, .null, []),
  (123, .invokevirtual 299, 3, 209, 3, 13, .null, []),
  (126, .ifCond .eq 10, 3, 136, 0, 0, .null, []),
  (129, .iconst 1, 1, 0, 0, 0, .int 1, []),
  (130, .iload 8, 2, 0, 0, 0, .null, []),
  (132, .ishl, 1, 0, 0, 0, .null, []),
  (133, .goto 4, 3, 137, 0, 0, .null, []),
  (136, .iconst 0, 1, 0, 0, 0, .int 0, []),
  (137, .ior, 1, 0, 0, 0, .null, []),
  (138, .istore 7, 2, 0, 0, 0, .null, []),
  (140, .iinc 8 1, 3, 0, 0, 0, .int 1, []),
  (143, .goto (-35), 3, 108, 0, 0, .null, []),
  (146, .iload 7, 2, 0, 0, 0, .null, []),
  (148, .aload_n 0, 1, 0, 0, 0, .null, []),
  (149, .iload 6, 2, 0, 0, 0, .null, []),
  (151, .iload 4, 2, 0, 0, 0, .null, []),
  (153, .invokevirtual 303, 3, 210, 2, 13, .null, []),
  (156, .ifCond .eq 8, 3, 164, 0, 0, .null, []),
  (159, .bipush 8, 2, 0, 0, 0, .int 8, []),
  (161, .goto 4, 3, 165, 0, 0, .null, []),
  (164, .iconst 0, 1, 0, 0, 0, .int 0, []),
  (165, .ior, 1, 0, 0, 0, .null, []),
  (166, .aload_n 0, 1, 0, 0, 0, .null, []),
  (167, .iload 6, 2, 0, 0, 0, .null, []),
  (169, .iload 4, 2, 0, 0, 0, .null, []),
  (171, .invokevirtual 306, 3, 211, 2, 13, .null, []),
  (174, .ifCond .eq 8, 3, 182, 0, 0, .null, []),
  (177, .bipush 16, 2, 0, 0, 0, .int 16, []),
  (179, .goto 4, 3, 183, 0, 0, .null, []),
  (182, .iconst 0, 1, 0, 0, 0, .int 0, []),
  (183, .ior, 1, 0, 0, 0, .null, []),
  (184, .ireturn, 1, 0, 0, 0, .null, [])]
def am_c_MD_what : List am_E := (0, .iload_n 1, 1, 0, 0, 0, .null, []) ::
  (1, .invokestatic 169, 3, 201, 1, 0, .null, []) ::
  (4, .ifCond .eq 28, 3, 32, 0, 0, .null, []) ::
  (7, .iload_n 2, 1, 0, 0, 0, .null, []) ::
  (8, .i2l, 1, 0, 0, 0, .null, []) ::
  (9, .lconst 0, 1, 0, 0, 0, .long 0, []) ::
  (10, .ldc2_w 161, 3, 0, 0, 0, .long 3, []) ::
  (13, .invokestatic 76, 3, 131, 3, 0, .null, []) ::
  (16, .ifCond .eq 16, 3, 32, 0, 0, .null, []) ::
  (19, .iload 4, 2, 0, 0, 0, .null, []) ::
  (21, .i2l, 1, 0, 0, 0, .null, []) ::
  (22, .lconst 1, 1, 0, 0, 0, .long 1, []) ::
  (23, .ldc2_w 297, 3, 0, 0, 0, .long 12, []) ::
  (26, .invokestatic 76, 3, 131, 3, 0, .null, []) ::
  (29, .ifCond .ne 5, 3, 34, 0, 0, .null, []) ::
  (32, .iconst (-1), 1, 0, 0, 0, .int (-1), []) ::
  (33, .ireturn, 1, 0, 0, 0, .null, []) ::
  (34, .aload_n 0, 1, 0, 0, 0, .null, []) ::
  (35, .iload_n 1, 1, 0, 0, 0, .null, []) ::
  (36, .iload_n 2, 1, 0, 0, 0, .null, []) ::
  (37, .iload_n 3, 1, 0, 0, 0, .null, []) ::
  (38, .iload 4, 2, 0, 0, 0, .null, []) ::
  (40, .invokevirtual 172, 3, 205, 4, 13, .null, []) ::
  (43, .istore 5, 2, 0, 0, 0, .null, []) ::
  (45, .iload 5, 2, 0, 0, 0, .null, []) ::
  (47, .ifCond .ge 6, 3, 53, 0, 0, .null, []) ::
  (50, .iload 5, 2, 0, 0, 0, .null, []) ::
  (52, .ireturn, 1, 0, 0, 0, .null, []) ::
  (53, .bipush 24, 2, 0, 0, 0, .int 24, []) ::
  (55, .iload_n 1, 1, 0, 0, 0, .null, []) ::
  (56, .imul, 1, 0, 0, 0, .null, []) ::
  (57, .iload_n 3, 1, 0, 0, 0, .null, []) ::
  (58, .iadd, 1, 0, 0, 0, .null, []) ::
  (59, .istore 6, 2, 0, 0, 0, .null, []) ::
  (61, .iconst 0, 1, 0, 0, 0, .int 0, []) ::
  (62, .istore 7, 2, 0, 0, 0, .null, []) ::
  (64, .iload 7, 2, 0, 0, 0, .null, [(0, 0)]) ::
  (66, .iload 4, 2, 0, 0, 0, .null, []) ::
  (68, .if_icmp .ge 34, 3, 102, 0, 0, .null, []) ::
  (71, .aload_n 0, 1, 0, 0, 0, .null, []) ::
  (72, .getfield 62, 3, 11, 25, 2, .null, []) ::
  (75, .iload 6, 2, 0, 0, 0, .null, []) ::
  (77, .iload 7, 2, 0, 0, 0, .null, []) ::
  (79, .iadd, 1, 0, 0, 0, .null, []) ::
  (80, .laload, 1, 0, 0, 0, .null, []) ::
  (81, .lconst 1, 1, 0, 0, 0, .long 1, []) ::
  (82, .aload_n 0, 1, 0, 0, 0, .null, []) ::
  (83, .invokevirtual 87, 3, 135, 0, 13, .null, []) ::
  (86, .i2l, 1, 0, 0, 0, .null, []) ::
  (87, .invokestatic 76, 3, 131, 3, 0, .null, []) :: am_c_MD_what_1
def am_c_MD_film_1 : List am_E := [(86, .getfield 7, 3, 11, 0, 2, .null, []),
  (89, .iconst 1, 1, 0, 0, 0, .int 1, []),
  (90, .iaload, 1, 0, 0, 0, .null, []),
  (91, .ireturn, 1, 0, 0, 0, .null, [])]
def am_c_MD_film : List am_E := (0, .iload_n 1, 1, 0, 0, 0, .null, []) ::
  (1, .invokestatic 169, 3, 201, 1, 0, .null, []) ::
  (4, .ifCond .eq 15, 3, 19, 0, 0, .null, []) ::
  (7, .iload_n 2, 1, 0, 0, 0, .null, []) ::
  (8, .i2l, 1, 0, 0, 0, .null, []) ::
  (9, .lconst 0, 1, 0, 0, 0, .long 0, []) ::
  (10, .ldc2_w 161, 3, 0, 0, 0, .long 3, []) ::
  (13, .invokestatic 76, 3, 131, 3, 0, .null, []) ::
  (16, .ifCond .ne 5, 3, 21, 0, 0, .null, []) ::
  (19, .iconst (-1), 1, 0, 0, 0, .int (-1), []) ::
  (20, .ireturn, 1, 0, 0, 0, .null, []) ::
  (21, .aload_n 0, 1, 0, 0, 0, .null, []) ::
  (22, .iload_n 1, 1, 0, 0, 0, .null, []) ::
  (23, .iload_n 2, 1, 0, 0, 0, .null, []) ::
  (24, .iload_n 3, 1, 0, 0, 0, .null, []) ::
  (25, .aload_n 0, 1, 0, 0, 0, .null, []) ::
  (26, .getfield 7, 3, 11, 0, 2, .null, []) ::
  (29, .iconst 1, 1, 0, 0, 0, .int 1, []) ::
  (30, .iaload, 1, 0, 0, 0, .null, []) ::
  (31, .invokevirtual 172, 3, 205, 4, 13, .null, []) ::
  (34, .istore 4, 2, 0, 0, 0, .null, []) ::
  (36, .iload 4, 2, 0, 0, 0, .null, []) ::
  (38, .ifCond .ge 6, 3, 44, 0, 0, .null, []) ::
  (41, .iload 4, 2, 0, 0, 0, .null, []) ::
  (43, .ireturn, 1, 0, 0, 0, .null, []) ::
  (44, .iconst 0, 1, 0, 0, 0, .int 0, []) ::
  (45, .istore 5, 2, 0, 0, 0, .null, []) ::
  (47, .iload 5, 2, 0, 0, 0, .null, [(0, 0)]) ::
  (49, .aload_n 0, 1, 0, 0, 0, .null, []) ::
  (50, .getfield 7, 3, 11, 0, 2, .null, []) ::
  (53, .iconst 1, 1, 0, 0, 0, .int 1, []) ::
  (54, .iaload, 1, 0, 0, 0, .null, []) ::
  (55, .if_icmp .ge 30, 3, 85, 0, 0, .null, []) ::
  (58, .aload_n 0, 1, 0, 0, 0, .null, []) ::
  (59, .getfield 62, 3, 11, 25, 2, .null, []) ::
  (62, .bipush 24, 2, 0, 0, 0, .int 24, []) ::
  (64, .iload_n 1, 1, 0, 0, 0, .null, []) ::
  (65, .imul, 1, 0, 0, 0, .null, []) ::
  (66, .iload_n 3, 1, 0, 0, 0, .null, []) ::
  (67, .iadd, 1, 0, 0, 0, .null, []) ::
  (68, .iload 5, 2, 0, 0, 0, .null, []) ::
  (70, .iadd, 1, 0, 0, 0, .null, []) ::
  (71, .aload_n 0, 1, 0, 0, 0, .null, []) ::
  (72, .iload 5, 2, 0, 0, 0, .null, []) ::
  (74, .invokevirtual 69, 3, 136, 1, 13, .null, []) ::
  (77, .i2l, 1, 0, 0, 0, .null, []) ::
  (78, .lastore, 1, 0, 0, 0, .null, []) ::
  (79, .iinc 5 1, 3, 0, 0, 0, .int 1, []) ::
  (82, .goto (-35), 3, 47, 0, 0, .null, []) ::
  (85, .aload_n 0, 1, 0, 0, 0, .null, []) :: am_c_MD_film_1
def am_c_La_law_13 : List am_E := [(938, .iload_n 3, 1, 0, 0, 0, .null, []),
  (939, .iconst 1, 1, 0, 0, 0, .int 1, []),
  (940, .iadd, 1, 0, 0, 0, .null, []),
  (941, .iaload, 1, 0, 0, 1, .null, []),
  (942, .aload_n 0, 1, 0, 0, 0, .null, []),
  (943, .iload_n 3, 1, 0, 0, 0, .null, []),
  (944, .iconst 2, 1, 0, 0, 0, .int 2, []),
  (945, .iadd, 1, 0, 0, 0, .null, []),
  (946, .iaload, 1, 0, 0, 1, .null, []),
  (947, .aload_n 0, 1, 0, 0, 0, .null, []),
  (948, .iload_n 3, 1, 0, 0, 0, .null, []),
  (949, .iconst 3, 1, 0, 0, 0, .int 3, []),
  (950, .iadd, 1, 0, 0, 0, .null, []),
  (951, .iaload, 1, 0, 0, 1, .null, []),
  (952, .aload_n 0, 1, 0, 0, 0, .null, []),
  (953, .iload_n 3, 1, 0, 0, 0, .null, []),
  (954, .iconst 4, 1, 0, 0, 0, .int 4, []),
  (955, .iadd, 1, 0, 0, 0, .null, []),
  (956, .iaload, 1, 0, 0, 1, .null, []),
  (957, .aload_n 0, 1, 0, 0, 0, .null, []),
  (958, .iload_n 3, 1, 0, 0, 0, .null, []),
  (959, .iconst 5, 1, 0, 0, 0, .int 5, []),
  (960, .iadd, 1, 0, 0, 0, .null, []),
  (961, .iaload, 1, 0, 0, 1, .null, []),
  (962, .invokevirtual 125, 3, 207, 5, 13, .null, []),
  (965, .if_icmp .eq 5, 3, 970, 0, 0, .null, []),
  (968, .iconst 0, 1, 0, 0, 0, .int 0, []),
  (969, .ireturn, 1, 0, 0, 0, .null, []),
  (970, .iinc 3 6, 3, 0, 0, 0, .int 6, []),
  (973, .goto (-955), 3, 18, 0, 0, .null, []),
  (976, .iconst 1, 1, 0, 0, 0, .int 1, []),
  (977, .ireturn, 1, 0, 0, 0, .null, [])]
def am_c_La_law_12 : List am_E := (879, .aload_n 0, 1, 0, 0, 0, .null, []) ::
  (880, .iload_n 3, 1, 0, 0, 0, .null, []) ::
  (881, .iconst 4, 1, 0, 0, 0, .int 4, []) ::
  (882, .iadd, 1, 0, 0, 0, .null, []) ::
  (883, .iaload, 1, 0, 0, 1, .null, []) ::
  (884, .i2l, 1, 0, 0, 0, .null, []) ::
  (885, .bipush 32, 2, 0, 0, 0, .int 32, []) ::
  (887, .lshl, 1, 0, 0, 0, .null, []) ::
  (888, .aload_n 0, 1, 0, 0, 0, .null, []) ::
  (889, .iload_n 3, 1, 0, 0, 0, .null, []) ::
  (890, .iconst 5, 1, 0, 0, 0, .int 5, []) ::
  (891, .iadd, 1, 0, 0, 0, .null, []) ::
  (892, .iaload, 1, 0, 0, 1, .null, []) ::
  (893, .i2l, 1, 0, 0, 0, .null, []) ::
  (894, .ldc2_w 114, 3, 0, 0, 0, .long 4294967295, []) ::
  (897, .land, 1, 0, 0, 0, .null, []) ::
  (898, .lor, 1, 0, 0, 0, .null, []) ::
  (899, .invokevirtual 120, 3, 206, 4, 13, .null, []) ::
  (902, .if_icmp .eq 68, 3, 970, 0, 0, .null, []) ::
  (905, .iconst 0, 1, 0, 0, 0, .int 0, []) ::
  (906, .ireturn, 1, 0, 0, 0, .null, []) ::
  (907, .aload_n 1, 1, 0, 0, 0, .null, []) ::
  (908, .aload_n 0, 1, 0, 0, 0, .null, []) ::
  (909, .iload_n 3, 1, 0, 0, 0, .null, []) ::
  (910, .iconst 1, 1, 0, 0, 0, .int 1, []) ::
  (911, .iadd, 1, 0, 0, 0, .null, []) ::
  (912, .iaload, 1, 0, 0, 1, .null, []) ::
  (913, .aload_n 0, 1, 0, 0, 0, .null, []) ::
  (914, .iload_n 3, 1, 0, 0, 0, .null, []) ::
  (915, .iconst 2, 1, 0, 0, 0, .int 2, []) ::
  (916, .iadd, 1, 0, 0, 0, .null, []) ::
  (917, .iaload, 1, 0, 0, 1, .null, []) ::
  (918, .aload_n 0, 1, 0, 0, 0, .null, []) ::
  (919, .iload_n 3, 1, 0, 0, 0, .null, []) ::
  (920, .iconst 3, 1, 0, 0, 0, .int 3, []) ::
  (921, .iadd, 1, 0, 0, 0, .null, []) ::
  (922, .iaload, 1, 0, 0, 1, .null, []) ::
  (923, .aload_n 0, 1, 0, 0, 0, .null, []) ::
  (924, .iload_n 3, 1, 0, 0, 0, .null, []) ::
  (925, .iconst 4, 1, 0, 0, 0, .int 4, []) ::
  (926, .iadd, 1, 0, 0, 0, .null, []) ::
  (927, .iaload, 1, 0, 0, 1, .null, []) ::
  (928, .aload_n 0, 1, 0, 0, 0, .null, []) ::
  (929, .iload_n 3, 1, 0, 0, 0, .null, []) ::
  (930, .iconst 5, 1, 0, 0, 0, .int 5, []) ::
  (931, .iadd, 1, 0, 0, 0, .null, []) ::
  (932, .iaload, 1, 0, 0, 1, .null, []) ::
  (933, .invokevirtual 121, 3, 123, 5, 12, .null, []) ::
  (936, .aload_n 2, 1, 0, 0, 0, .null, []) ::
  (937, .aload_n 0, 1, 0, 0, 0, .null, []) :: am_c_La_law_13
def am_c_La_law_11 : List am_E := (824, .aload_n 1, 1, 0, 0, 0, .null, []) ::
  (825, .aload_n 0, 1, 0, 0, 0, .null, []) ::
  (826, .iload_n 3, 1, 0, 0, 0, .null, []) ::
  (827, .iconst 1, 1, 0, 0, 0, .int 1, []) ::
  (828, .iadd, 1, 0, 0, 0, .null, []) ::
  (829, .iaload, 1, 0, 0, 1, .null, []) ::
  (830, .aload_n 0, 1, 0, 0, 0, .null, []) ::
  (831, .iload_n 3, 1, 0, 0, 0, .null, []) ::
  (832, .iconst 2, 1, 0, 0, 0, .int 2, []) ::
  (833, .iadd, 1, 0, 0, 0, .null, []) ::
  (834, .iaload, 1, 0, 0, 1, .null, []) ::
  (835, .aload_n 0, 1, 0, 0, 0, .null, []) ::
  (836, .iload_n 3, 1, 0, 0, 0, .null, []) ::
  (837, .iconst 3, 1, 0, 0, 0, .int 3, []) ::
  (838, .iadd, 1, 0, 0, 0, .null, []) ::
  (839, .iaload, 1, 0, 0, 1, .null, []) ::
  (840, .aload_n 0, 1, 0, 0, 0, .null, []) ::
  (841, .iload_n 3, 1, 0, 0, 0, .null, []) ::
  (842, .iconst 4, 1, 0, 0, 0, .int 4, []) ::
  (843, .iadd, 1, 0, 0, 0, .null, []) ::
  (844, .iaload, 1, 0, 0, 1, .null, []) ::
  (845, .i2l, 1, 0, 0, 0, .null, []) ::
  (846, .bipush 32, 2, 0, 0, 0, .int 32, []) ::
  (848, .lshl, 1, 0, 0, 0, .null, []) ::
  (849, .aload_n 0, 1, 0, 0, 0, .null, []) ::
  (850, .iload_n 3, 1, 0, 0, 0, .null, []) ::
  (851, .iconst 5, 1, 0, 0, 0, .int 5, []) ::
  (852, .iadd, 1, 0, 0, 0, .null, []) ::
  (853, .iaload, 1, 0, 0, 1, .null, []) ::
  (854, .i2l, 1, 0, 0, 0, .null, []) ::
  (855, .ldc2_w 114, 3, 0, 0, 0, .long 4294967295, []) ::
  (858, .land, 1, 0, 0, 0, .null, []) ::
  (859, .lor, 1, 0, 0, 0, .null, []) ::
  (860, .invokevirtual 116, 3, 122, 4, 12, .null, []) ::
  (863, .aload_n 2, 1, 0, 0, 0, .null, []) ::
  (864, .aload_n 0, 1, 0, 0, 0, .null, []) ::
  (865, .iload_n 3, 1, 0, 0, 0, .null, []) ::
  (866, .iconst 1, 1, 0, 0, 0, .int 1, []) ::
  (867, .iadd, 1, 0, 0, 0, .null, []) ::
  (868, .iaload, 1, 0, 0, 1, .null, []) ::
  (869, .aload_n 0, 1, 0, 0, 0, .null, []) ::
  (870, .iload_n 3, 1, 0, 0, 0, .null, []) ::
  (871, .iconst 2, 1, 0, 0, 0, .int 2, []) ::
  (872, .iadd, 1, 0, 0, 0, .null, []) ::
  (873, .iaload, 1, 0, 0, 1, .null, []) ::
  (874, .aload_n 0, 1, 0, 0, 0, .null, []) ::
  (875, .iload_n 3, 1, 0, 0, 0, .null, []) ::
  (876, .iconst 3, 1, 0, 0, 0, .int 3, []) ::
  (877, .iadd, 1, 0, 0, 0, .null, []) ::
  (878, .iaload, 1, 0, 0, 1, .null, []) :: am_c_La_law_12
def am_c_La_law_10 : List am_E := (762, .iadd, 1, 0, 0, 0, .null, []) ::
  (763, .iaload, 1, 0, 0, 1, .null, []) ::
  (764, .aload_n 0, 1, 0, 0, 0, .null, []) ::
  (765, .iload_n 3, 1, 0, 0, 0, .null, []) ::
  (766, .iconst 2, 1, 0, 0, 0, .int 2, []) ::
  (767, .iadd, 1, 0, 0, 0, .null, []) ::
  (768, .iaload, 1, 0, 0, 1, .null, []) ::
  (769, .aload_n 0, 1, 0, 0, 0, .null, []) ::
  (770, .iload_n 3, 1, 0, 0, 0, .null, []) ::
  (771, .iconst 3, 1, 0, 0, 0, .int 3, []) ::
  (772, .iadd, 1, 0, 0, 0, .null, []) ::
  (773, .iaload, 1, 0, 0, 1, .null, []) ::
  (774, .invokevirtual 106, 3, 120, 3, 12, .null, []) ::
  (777, .aload_n 2, 1, 0, 0, 0, .null, []) ::
  (778, .aload_n 0, 1, 0, 0, 0, .null, []) ::
  (779, .iload_n 3, 1, 0, 0, 0, .null, []) ::
  (780, .iconst 1, 1, 0, 0, 0, .int 1, []) ::
  (781, .iadd, 1, 0, 0, 0, .null, []) ::
  (782, .iaload, 1, 0, 0, 1, .null, []) ::
  (783, .aload_n 0, 1, 0, 0, 0, .null, []) ::
  (784, .iload_n 3, 1, 0, 0, 0, .null, []) ::
  (785, .iconst 2, 1, 0, 0, 0, .int 2, []) ::
  (786, .iadd, 1, 0, 0, 0, .null, []) ::
  (787, .iaload, 1, 0, 0, 1, .null, []) ::
  (788, .aload_n 0, 1, 0, 0, 0, .null, []) ::
  (789, .iload_n 3, 1, 0, 0, 0, .null, []) ::
  (790, .iconst 3, 1, 0, 0, 0, .int 3, []) ::
  (791, .iadd, 1, 0, 0, 0, .null, []) ::
  (792, .iaload, 1, 0, 0, 1, .null, []) ::
  (793, .invokevirtual 109, 3, 203, 3, 13, .null, []) ::
  (796, .if_icmp .eq 174, 3, 970, 0, 0, .null, []) ::
  (799, .iconst 0, 1, 0, 0, 0, .int 0, []) ::
  (800, .ireturn, 1, 0, 0, 0, .null, []) ::
  (801, .aload_n 1, 1, 0, 0, 0, .null, []) ::
  (802, .aload_n 0, 1, 0, 0, 0, .null, []) ::
  (803, .iload_n 3, 1, 0, 0, 0, .null, []) ::
  (804, .iconst 1, 1, 0, 0, 0, .int 1, []) ::
  (805, .iadd, 1, 0, 0, 0, .null, []) ::
  (806, .iaload, 1, 0, 0, 1, .null, []) ::
  (807, .invokevirtual 110, 3, 121, 1, 12, .null, []) ::
  (810, .aload_n 2, 1, 0, 0, 0, .null, []) ::
  (811, .aload_n 0, 1, 0, 0, 0, .null, []) ::
  (812, .iload_n 3, 1, 0, 0, 0, .null, []) ::
  (813, .iconst 1, 1, 0, 0, 0, .int 1, []) ::
  (814, .iadd, 1, 0, 0, 0, .null, []) ::
  (815, .iaload, 1, 0, 0, 1, .null, []) ::
  (816, .invokevirtual 113, 3, 204, 1, 13, .null, []) ::
  (819, .if_icmp .eq 151, 3, 970, 0, 0, .null, []) ::
  (822, .iconst 0, 1, 0, 0, 0, .int 0, []) ::
  (823, .ireturn, 1, 0, 0, 0, .null, []) :: am_c_La_law_11
def am_c_La_law_9 : List am_E := (702, .aload_n 0, 1, 0, 0, 0, .null, []) ::
  (703, .iload_n 3, 1, 0, 0, 0, .null, []) ::
  (704, .iconst 4, 1, 0, 0, 0, .int 4, []) ::
  (705, .iadd, 1, 0, 0, 0, .null, []) ::
  (706, .iaload, 1, 0, 0, 1, .null, []) ::
  (707, .invokevirtual 101, 3, 212, 4, 13, .null, []) ::
  (710, .if_icmp .eq 260, 3, 970, 0, 0, .null, []) ::
  (713, .iconst 0, 1, 0, 0, 0, .int 0, []) ::
  (714, .ireturn, 1, 0, 0, 0, .null, []) ::
  (715, .aload_n 1, 1, 0, 0, 0, .null, []) ::
  (716, .aload_n 0, 1, 0, 0, 0, .null, []) ::
  (717, .iload_n 3, 1, 0, 0, 0, .null, []) ::
  (718, .iconst 1, 1, 0, 0, 0, .int 1, []) ::
  (719, .iadd, 1, 0, 0, 0, .null, []) ::
  (720, .iaload, 1, 0, 0, 1, .null, []) ::
  (721, .aload_n 0, 1, 0, 0, 0, .null, []) ::
  (722, .iload_n 3, 1, 0, 0, 0, .null, []) ::
  (723, .iconst 2, 1, 0, 0, 0, .int 2, []) ::
  (724, .iadd, 1, 0, 0, 0, .null, []) ::
  (725, .iaload, 1, 0, 0, 1, .null, []) ::
  (726, .aload_n 0, 1, 0, 0, 0, .null, []) ::
  (727, .iload_n 3, 1, 0, 0, 0, .null, []) ::
  (728, .iconst 3, 1, 0, 0, 0, .int 3, []) ::
  (729, .iadd, 1, 0, 0, 0, .null, []) ::
  (730, .iaload, 1, 0, 0, 1, .null, []) ::
  (731, .invokevirtual 102, 3, 119, 3, 12, .null, []) ::
  (734, .aload_n 2, 1, 0, 0, 0, .null, []) ::
  (735, .aload_n 0, 1, 0, 0, 0, .null, []) ::
  (736, .iload_n 3, 1, 0, 0, 0, .null, []) ::
  (737, .iconst 1, 1, 0, 0, 0, .int 1, []) ::
  (738, .iadd, 1, 0, 0, 0, .null, []) ::
  (739, .iaload, 1, 0, 0, 1, .null, []) ::
  (740, .aload_n 0, 1, 0, 0, 0, .null, []) ::
  (741, .iload_n 3, 1, 0, 0, 0, .null, []) ::
  (742, .iconst 2, 1, 0, 0, 0, .int 2, []) ::
  (743, .iadd, 1, 0, 0, 0, .null, []) ::
  (744, .iaload, 1, 0, 0, 1, .null, []) ::
  (745, .aload_n 0, 1, 0, 0, 0, .null, []) ::
  (746, .iload_n 3, 1, 0, 0, 0, .null, []) ::
  (747, .iconst 3, 1, 0, 0, 0, .int 3, []) ::
  (748, .iadd, 1, 0, 0, 0, .null, []) ::
  (749, .iaload, 1, 0, 0, 1, .null, []) ::
  (750, .invokevirtual 105, 3, 213, 3, 13, .null, []) ::
  (753, .if_icmp .eq 217, 3, 970, 0, 0, .null, []) ::
  (756, .iconst 0, 1, 0, 0, 0, .int 0, []) ::
  (757, .ireturn, 1, 0, 0, 0, .null, []) ::
  (758, .aload_n 1, 1, 0, 0, 0, .null, []) ::
  (759, .aload_n 0, 1, 0, 0, 0, .null, []) ::
  (760, .iload_n 3, 1, 0, 0, 0, .null, []) ::
  (761, .iconst 1, 1, 0, 0, 0, .int 1, []) :: am_c_La_law_10
def am_c_La_law_8 : List am_E := (646, .iconst 3, 1, 0, 0, 0, .int 3, []) ::
  (647, .iadd, 1, 0, 0, 0, .null, []) ::
  (648, .iaload, 1, 0, 0, 1, .null, []) ::
  (649, .aload_n 0, 1, 0, 0, 0, .null, []) ::
  (650, .iload_n 3, 1, 0, 0, 0, .null, []) ::
  (651, .iconst 4, 1, 0, 0, 0, .int 4, []) ::
  (652, .iadd, 1, 0, 0, 0, .null, []) ::
  (653, .iaload, 1, 0, 0, 1, .null, []) ::
  (654, .invokevirtual 97, 3, 165, 4, 13, .null, []) ::
  (657, .if_icmp .eq 313, 3, 970, 0, 0, .null, []) ::
  (660, .iconst 0, 1, 0, 0, 0, .int 0, []) ::
  (661, .ireturn, 1, 0, 0, 0, .null, []) ::
  (662, .aload_n 1, 1, 0, 0, 0, .null, []) ::
  (663, .aload_n 0, 1, 0, 0, 0, .null, []) ::
  (664, .iload_n 3, 1, 0, 0, 0, .null, []) ::
  (665, .iconst 1, 1, 0, 0, 0, .int 1, []) ::
  (666, .iadd, 1, 0, 0, 0, .null, []) ::
  (667, .iaload, 1, 0, 0, 1, .null, []) ::
  (668, .aload_n 0, 1, 0, 0, 0, .null, []) ::
  (669, .iload_n 3, 1, 0, 0, 0, .null, []) ::
  (670, .iconst 2, 1, 0, 0, 0, .int 2, []) ::
  (671, .iadd, 1, 0, 0, 0, .null, []) ::
  (672, .iaload, 1, 0, 0, 1, .null, []) ::
  (673, .aload_n 0, 1, 0, 0, 0, .null, []) ::
  (674, .iload_n 3, 1, 0, 0, 0, .null, []) ::
  (675, .iconst 3, 1, 0, 0, 0, .int 3, []) ::
  (676, .iadd, 1, 0, 0, 0, .null, []) ::
  (677, .iaload, 1, 0, 0, 1, .null, []) ::
  (678, .aload_n 0, 1, 0, 0, 0, .null, []) ::
  (679, .iload_n 3, 1, 0, 0, 0, .null, []) ::
  (680, .iconst 4, 1, 0, 0, 0, .int 4, []) ::
  (681, .iadd, 1, 0, 0, 0, .null, []) ::
  (682, .iaload, 1, 0, 0, 1, .null, []) ::
  (683, .invokevirtual 98, 3, 118, 4, 12, .null, []) ::
  (686, .aload_n 2, 1, 0, 0, 0, .null, []) ::
  (687, .aload_n 0, 1, 0, 0, 0, .null, []) ::
  (688, .iload_n 3, 1, 0, 0, 0, .null, []) ::
  (689, .iconst 1, 1, 0, 0, 0, .int 1, []) ::
  (690, .iadd, 1, 0, 0, 0, .null, []) ::
  (691, .iaload, 1, 0, 0, 1, .null, []) ::
  (692, .aload_n 0, 1, 0, 0, 0, .null, []) ::
  (693, .iload_n 3, 1, 0, 0, 0, .null, []) ::
  (694, .iconst 2, 1, 0, 0, 0, .int 2, []) ::
  (695, .iadd, 1, 0, 0, 0, .null, []) ::
  (696, .iaload, 1, 0, 0, 1, .null, []) ::
  (697, .aload_n 0, 1, 0, 0, 0, .null, []) ::
  (698, .iload_n 3, 1, 0, 0, 0, .null, []) ::
  (699, .iconst 3, 1, 0, 0, 0, .int 3, []) ::
  (700, .iadd, 1, 0, 0, 0, .null, []) ::
  (701, .iaload, 1, 0, 0, 1, .null, []) :: am_c_La_law_9
def am_c_La_law_7 : List am_E := (582, .ireturn, 1, 0, 0, 0, .null, []) ::
  (583, .aload_n 1, 1, 0, 0, 0, .null, []) ::
  (584, .invokevirtual 85, 3, 115, 0, 12, .null, []) ::
  (587, .aload_n 2, 1, 0, 0, 0, .null, []) ::
  (588, .invokevirtual 88, 3, 199, 0, 13, .null, []) ::
  (591, .if_icmp .eq 379, 3, 970, 0, 0, .null, []) ::
  (594, .iconst 0, 1, 0, 0, 0, .int 0, []) ::
  (595, .ireturn, 1, 0, 0, 0, .null, []) ::
  (596, .aload_n 1, 1, 0, 0, 0, .null, []) ::
  (597, .invokevirtual 89, 3, 116, 0, 12, .null, []) ::
  (600, .aload_n 2, 1, 0, 0, 0, .null, []) ::
  (601, .invokevirtual 92, 3, 200, 0, 13, .null, []) ::
  (604, .if_icmp .eq 366, 3, 970, 0, 0, .null, []) ::
  (607, .iconst 0, 1, 0, 0, 0, .int 0, []) ::
  (608, .ireturn, 1, 0, 0, 0, .null, []) ::
  (609, .aload_n 1, 1, 0, 0, 0, .null, []) ::
  (610, .aload_n 0, 1, 0, 0, 0, .null, []) ::
  (611, .iload_n 3, 1, 0, 0, 0, .null, []) ::
  (612, .iconst 1, 1, 0, 0, 0, .int 1, []) ::
  (613, .iadd, 1, 0, 0, 0, .null, []) ::
  (614, .iaload, 1, 0, 0, 1, .null, []) ::
  (615, .aload_n 0, 1, 0, 0, 0, .null, []) ::
  (616, .iload_n 3, 1, 0, 0, 0, .null, []) ::
  (617, .iconst 2, 1, 0, 0, 0, .int 2, []) ::
  (618, .iadd, 1, 0, 0, 0, .null, []) ::
  (619, .iaload, 1, 0, 0, 1, .null, []) ::
  (620, .aload_n 0, 1, 0, 0, 0, .null, []) ::
  (621, .iload_n 3, 1, 0, 0, 0, .null, []) ::
  (622, .iconst 3, 1, 0, 0, 0, .int 3, []) ::
  (623, .iadd, 1, 0, 0, 0, .null, []) ::
  (624, .iaload, 1, 0, 0, 1, .null, []) ::
  (625, .aload_n 0, 1, 0, 0, 0, .null, []) ::
  (626, .iload_n 3, 1, 0, 0, 0, .null, []) ::
  (627, .iconst 4, 1, 0, 0, 0, .int 4, []) ::
  (628, .iadd, 1, 0, 0, 0, .null, []) ::
  (629, .iaload, 1, 0, 0, 1, .null, []) ::
  (630, .invokevirtual 93, 3, 117, 4, 12, .null, []) ::
  (633, .aload_n 2, 1, 0, 0, 0, .null, []) ::
  (634, .aload_n 0, 1, 0, 0, 0, .null, []) ::
  (635, .iload_n 3, 1, 0, 0, 0, .null, []) ::
  (636, .iconst 1, 1, 0, 0, 0, .int 1, []) ::
  (637, .iadd, 1, 0, 0, 0, .null, []) ::
  (638, .iaload, 1, 0, 0, 1, .null, []) ::
  (639, .aload_n 0, 1, 0, 0, 0, .null, []) ::
  (640, .iload_n 3, 1, 0, 0, 0, .null, []) ::
  (641, .iconst 2, 1, 0, 0, 0, .int 2, []) ::
  (642, .iadd, 1, 0, 0, 0, .null, []) ::
  (643, .iaload, 1, 0, 0, 1, .null, []) ::
  (644, .aload_n 0, 1, 0, 0, 0, .null, []) ::
  (645, .iload_n 3, 1, 0, 0, 0, .null, []) :: am_c_La_law_8
def am_c_La_law_6 : List am_E := (506, .if_icmp .eq 464, 3, 970, 0, 0, .null, []) ::
  (509, .iconst 0, 1, 0, 0, 0, .int 0, []) ::
  (510, .ireturn, 1, 0, 0, 0, .null, []) ::
  (511, .aload_n 1, 1, 0, 0, 0, .null, []) ::
  (512, .invokevirtual 68, 3, 111, 0, 12, .null, []) ::
  (515, .aload_n 2, 1, 0, 0, 0, .null, []) ::
  (516, .invokevirtual 72, 3, 196, 0, 13, .null, []) ::
  (519, .if_icmp .eq 451, 3, 970, 0, 0, .null, []) ::
  (522, .iconst 0, 1, 0, 0, 0, .int 0, []) ::
  (523, .ireturn, 1, 0, 0, 0, .null, []) ::
  (524, .aload_n 1, 1, 0, 0, 0, .null, []) ::
  (525, .aload_n 0, 1, 0, 0, 0, .null, []) ::
  (526, .iload_n 3, 1, 0, 0, 0, .null, []) ::
  (527, .iconst 1, 1, 0, 0, 0, .int 1, []) ::
  (528, .iadd, 1, 0, 0, 0, .null, []) ::
  (529, .iaload, 1, 0, 0, 1, .null, []) ::
  (530, .invokevirtual 73, 3, 112, 1, 12, .null, []) ::
  (533, .aload_n 2, 1, 0, 0, 0, .null, []) ::
  (534, .aload_n 0, 1, 0, 0, 0, .null, []) ::
  (535, .iload_n 3, 1, 0, 0, 0, .null, []) ::
  (536, .iconst 1, 1, 0, 0, 0, .int 1, []) ::
  (537, .iadd, 1, 0, 0, 0, .null, []) ::
  (538, .iaload, 1, 0, 0, 1, .null, []) ::
  (539, .invokevirtual 76, 3, 180, 1, 13, .null, []) ::
  (542, .if_icmp .eq 428, 3, 970, 0, 0, .null, []) ::
  (545, .iconst 0, 1, 0, 0, 0, .int 0, []) ::
  (546, .ireturn, 1, 0, 0, 0, .null, []) ::
  (547, .aload_n 1, 1, 0, 0, 0, .null, []) ::
  (548, .invokevirtual 77, 3, 113, 0, 12, .null, []) ::
  (551, .aload_n 2, 1, 0, 0, 0, .null, []) ::
  (552, .invokevirtual 80, 3, 198, 0, 13, .null, []) ::
  (555, .if_icmp .eq 415, 3, 970, 0, 0, .null, []) ::
  (558, .iconst 0, 1, 0, 0, 0, .int 0, []) ::
  (559, .ireturn, 1, 0, 0, 0, .null, []) ::
  (560, .aload_n 1, 1, 0, 0, 0, .null, []) ::
  (561, .aload_n 0, 1, 0, 0, 0, .null, []) ::
  (562, .iload_n 3, 1, 0, 0, 0, .null, []) ::
  (563, .iconst 1, 1, 0, 0, 0, .int 1, []) ::
  (564, .iadd, 1, 0, 0, 0, .null, []) ::
  (565, .iaload, 1, 0, 0, 1, .null, []) ::
  (566, .invokevirtual 81, 3, 114, 1, 12, .null, []) ::
  (569, .aload_n 2, 1, 0, 0, 0, .null, []) ::
  (570, .aload_n 0, 1, 0, 0, 0, .null, []) ::
  (571, .iload_n 3, 1, 0, 0, 0, .null, []) ::
  (572, .iconst 1, 1, 0, 0, 0, .int 1, []) ::
  (573, .iadd, 1, 0, 0, 0, .null, []) ::
  (574, .iaload, 1, 0, 0, 1, .null, []) ::
  (575, .invokevirtual 84, 3, 181, 1, 13, .null, []) ::
  (578, .if_icmp .eq 392, 3, 970, 0, 0, .null, []) ::
  (581, .iconst 0, 1, 0, 0, 0, .int 0, []) :: am_c_La_law_7
def am_c_La_law_5 : List am_E := (440, .iconst 0, 1, 0, 0, 0, .int 0, []) ::
  (441, .ireturn, 1, 0, 0, 0, .null, []) ::
  (442, .aload_n 1, 1, 0, 0, 0, .null, []) ::
  (443, .aload_n 0, 1, 0, 0, 0, .null, []) ::
  (444, .iload_n 3, 1, 0, 0, 0, .null, []) ::
  (445, .iconst 1, 1, 0, 0, 0, .int 1, []) ::
  (446, .iadd, 1, 0, 0, 0, .null, []) ::
  (447, .iaload, 1, 0, 0, 1, .null, []) ::
  (448, .invokevirtual 56, 3, 108, 1, 12, .null, []) ::
  (451, .aload_n 2, 1, 0, 0, 0, .null, []) ::
  (452, .aload_n 0, 1, 0, 0, 0, .null, []) ::
  (453, .iload_n 3, 1, 0, 0, 0, .null, []) ::
  (454, .iconst 1, 1, 0, 0, 0, .int 1, []) ::
  (455, .iadd, 1, 0, 0, 0, .null, []) ::
  (456, .iaload, 1, 0, 0, 1, .null, []) ::
  (457, .invokevirtual 59, 3, 178, 1, 13, .null, []) ::
  (460, .if_icmp .eq 510, 3, 970, 0, 0, .null, []) ::
  (463, .iconst 0, 1, 0, 0, 0, .int 0, []) ::
  (464, .ireturn, 1, 0, 0, 0, .null, []) ::
  (465, .aload_n 1, 1, 0, 0, 0, .null, []) ::
  (466, .aload_n 0, 1, 0, 0, 0, .null, []) ::
  (467, .iload_n 3, 1, 0, 0, 0, .null, []) ::
  (468, .iconst 1, 1, 0, 0, 0, .int 1, []) ::
  (469, .iadd, 1, 0, 0, 0, .null, []) ::
  (470, .iaload, 1, 0, 0, 1, .null, []) ::
  (471, .invokevirtual 60, 3, 109, 1, 12, .null, []) ::
  (474, .aload_n 2, 1, 0, 0, 0, .null, []) ::
  (475, .aload_n 0, 1, 0, 0, 0, .null, []) ::
  (476, .iload_n 3, 1, 0, 0, 0, .null, []) ::
  (477, .iconst 1, 1, 0, 0, 0, .int 1, []) ::
  (478, .iadd, 1, 0, 0, 0, .null, []) ::
  (479, .iaload, 1, 0, 0, 1, .null, []) ::
  (480, .invokevirtual 63, 3, 179, 1, 13, .null, []) ::
  (483, .if_icmp .eq 487, 3, 970, 0, 0, .null, []) ::
  (486, .iconst 0, 1, 0, 0, 0, .int 0, []) ::
  (487, .ireturn, 1, 0, 0, 0, .null, []) ::
  (488, .aload_n 1, 1, 0, 0, 0, .null, []) ::
  (489, .aload_n 0, 1, 0, 0, 0, .null, []) ::
  (490, .iload_n 3, 1, 0, 0, 0, .null, []) ::
  (491, .iconst 1, 1, 0, 0, 0, .int 1, []) ::
  (492, .iadd, 1, 0, 0, 0, .null, []) ::
  (493, .iaload, 1, 0, 0, 1, .null, []) ::
  (494, .invokevirtual 64, 3, 110, 1, 12, .null, []) ::
  (497, .aload_n 2, 1, 0, 0, 0, .null, []) ::
  (498, .aload_n 0, 1, 0, 0, 0, .null, []) ::
  (499, .iload_n 3, 1, 0, 0, 0, .null, []) ::
  (500, .iconst 1, 1, 0, 0, 0, .int 1, []) ::
  (501, .iadd, 1, 0, 0, 0, .null, []) ::
  (502, .iaload, 1, 0, 0, 1, .null, []) ::
  (503, .invokevirtual 67, 3, 182, 1, 13, .null, []) :: am_c_La_law_6
def am_c_La_law_4 : List am_E := (378, .iload_n 3, 1, 0, 0, 0, .null, []) ::
  (379, .iconst 1, 1, 0, 0, 0, .int 1, []) ::
  (380, .iadd, 1, 0, 0, 0, .null, []) ::
  (381, .iaload, 1, 0, 0, 1, .null, []) ::
  (382, .aload_n 0, 1, 0, 0, 0, .null, []) ::
  (383, .iload_n 3, 1, 0, 0, 0, .null, []) ::
  (384, .iconst 2, 1, 0, 0, 0, .int 2, []) ::
  (385, .iadd, 1, 0, 0, 0, .null, []) ::
  (386, .iaload, 1, 0, 0, 1, .null, []) ::
  (387, .aload_n 0, 1, 0, 0, 0, .null, []) ::
  (388, .iload_n 3, 1, 0, 0, 0, .null, []) ::
  (389, .iconst 3, 1, 0, 0, 0, .int 3, []) ::
  (390, .iadd, 1, 0, 0, 0, .null, []) ::
  (391, .iaload, 1, 0, 0, 1, .null, []) ::
  (392, .invokevirtual 47, 3, 106, 3, 12, .null, []) ::
  (395, .aload_n 2, 1, 0, 0, 0, .null, []) ::
  (396, .aload_n 0, 1, 0, 0, 0, .null, []) ::
  (397, .iload_n 3, 1, 0, 0, 0, .null, []) ::
  (398, .iconst 1, 1, 0, 0, 0, .int 1, []) ::
  (399, .iadd, 1, 0, 0, 0, .null, []) ::
  (400, .iaload, 1, 0, 0, 1, .null, []) ::
  (401, .aload_n 0, 1, 0, 0, 0, .null, []) ::
  (402, .iload_n 3, 1, 0, 0, 0, .null, []) ::
  (403, .iconst 2, 1, 0, 0, 0, .int 2, []) ::
  (404, .iadd, 1, 0, 0, 0, .null, []) ::
  (405, .iaload, 1, 0, 0, 1, .null, []) ::
  (406, .aload_n 0, 1, 0, 0, 0, .null, []) ::
  (407, .iload_n 3, 1, 0, 0, 0, .null, []) ::
  (408, .iconst 3, 1, 0, 0, 0, .int 3, []) ::
  (409, .iadd, 1, 0, 0, 0, .null, []) ::
  (410, .iaload, 1, 0, 0, 1, .null, []) ::
  (411, .invokevirtual 51, 3, 174, 3, 13, .null, []) ::
  (414, .if_icmp .eq 556, 3, 970, 0, 0, .null, []) ::
  (417, .iconst 0, 1, 0, 0, 0, .int 0, []) ::
  (418, .ireturn, 1, 0, 0, 0, .null, []) ::
  (419, .aload_n 1, 1, 0, 0, 0, .null, []) ::
  (420, .aload_n 0, 1, 0, 0, 0, .null, []) ::
  (421, .iload_n 3, 1, 0, 0, 0, .null, []) ::
  (422, .iconst 1, 1, 0, 0, 0, .int 1, []) ::
  (423, .iadd, 1, 0, 0, 0, .null, []) ::
  (424, .iaload, 1, 0, 0, 1, .null, []) ::
  (425, .invokevirtual 52, 3, 107, 1, 12, .null, []) ::
  (428, .aload_n 2, 1, 0, 0, 0, .null, []) ::
  (429, .aload_n 0, 1, 0, 0, 0, .null, []) ::
  (430, .iload_n 3, 1, 0, 0, 0, .null, []) ::
  (431, .iconst 1, 1, 0, 0, 0, .int 1, []) ::
  (432, .iadd, 1, 0, 0, 0, .null, []) ::
  (433, .iaload, 1, 0, 0, 1, .null, []) ::
  (434, .invokevirtual 55, 3, 175, 1, 13, .null, []) ::
  (437, .if_icmp .eq 533, 3, 970, 0, 0, .null, []) :: am_c_La_law_5
def am_c_La_law_3 : List am_E := (312, .invokevirtual 38, 3, 166, 1, 13, .null, []) ::
  (315, .if_icmp .eq 655, 3, 970, 0, 0, .null, []) ::
  (318, .iconst 0, 1, 0, 0, 0, .int 0, []) ::
  (319, .ireturn, 1, 0, 0, 0, .null, []) ::
  (320, .aload_n 1, 1, 0, 0, 0, .null, []) ::
  (321, .aload_n 0, 1, 0, 0, 0, .null, []) ::
  (322, .iload_n 3, 1, 0, 0, 0, .null, []) ::
  (323, .iconst 1, 1, 0, 0, 0, .int 1, []) ::
  (324, .iadd, 1, 0, 0, 0, .null, []) ::
  (325, .iaload, 1, 0, 0, 1, .null, []) ::
  (326, .aload_n 0, 1, 0, 0, 0, .null, []) ::
  (327, .iload_n 3, 1, 0, 0, 0, .null, []) ::
  (328, .iconst 2, 1, 0, 0, 0, .int 2, []) ::
  (329, .iadd, 1, 0, 0, 0, .null, []) ::
  (330, .iaload, 1, 0, 0, 1, .null, []) ::
  (331, .invokevirtual 39, 3, 104, 2, 12, .null, []) ::
  (334, .aload_n 2, 1, 0, 0, 0, .null, []) ::
  (335, .aload_n 0, 1, 0, 0, 0, .null, []) ::
  (336, .iload_n 3, 1, 0, 0, 0, .null, []) ::
  (337, .iconst 1, 1, 0, 0, 0, .int 1, []) ::
  (338, .iadd, 1, 0, 0, 0, .null, []) ::
  (339, .iaload, 1, 0, 0, 1, .null, []) ::
  (340, .aload_n 0, 1, 0, 0, 0, .null, []) ::
  (341, .iload_n 3, 1, 0, 0, 0, .null, []) ::
  (342, .iconst 2, 1, 0, 0, 0, .int 2, []) ::
  (343, .iadd, 1, 0, 0, 0, .null, []) ::
  (344, .iaload, 1, 0, 0, 1, .null, []) ::
  (345, .invokevirtual 42, 3, 167, 2, 13, .null, []) ::
  (348, .if_icmp .eq 622, 3, 970, 0, 0, .null, []) ::
  (351, .iconst 0, 1, 0, 0, 0, .int 0, []) ::
  (352, .ireturn, 1, 0, 0, 0, .null, []) ::
  (353, .aload_n 1, 1, 0, 0, 0, .null, []) ::
  (354, .aload_n 0, 1, 0, 0, 0, .null, []) ::
  (355, .iload_n 3, 1, 0, 0, 0, .null, []) ::
  (356, .iconst 1, 1, 0, 0, 0, .int 1, []) ::
  (357, .iadd, 1, 0, 0, 0, .null, []) ::
  (358, .iaload, 1, 0, 0, 1, .null, []) ::
  (359, .invokevirtual 43, 3, 105, 1, 12, .null, []) ::
  (362, .aload_n 2, 1, 0, 0, 0, .null, []) ::
  (363, .aload_n 0, 1, 0, 0, 0, .null, []) ::
  (364, .iload_n 3, 1, 0, 0, 0, .null, []) ::
  (365, .iconst 1, 1, 0, 0, 0, .int 1, []) ::
  (366, .iadd, 1, 0, 0, 0, .null, []) ::
  (367, .iaload, 1, 0, 0, 1, .null, []) ::
  (368, .invokevirtual 46, 3, 169, 1, 13, .null, []) ::
  (371, .if_icmp .eq 599, 3, 970, 0, 0, .null, []) ::
  (374, .iconst 0, 1, 0, 0, 0, .int 0, []) ::
  (375, .ireturn, 1, 0, 0, 0, .null, []) ::
  (376, .aload_n 1, 1, 0, 0, 0, .null, []) ::
  (377, .aload_n 0, 1, 0, 0, 0, .null, []) :: am_c_La_law_4
def am_c_La_law_2 : List am_E := (250, .aload_n 2, 1, 0, 0, 0, .null, []) ::
  (251, .aload_n 0, 1, 0, 0, 0, .null, []) ::
  (252, .iload_n 3, 1, 0, 0, 0, .null, []) ::
  (253, .iconst 1, 1, 0, 0, 0, .int 1, []) ::
  (254, .iadd, 1, 0, 0, 0, .null, []) ::
  (255, .iaload, 1, 0, 0, 1, .null, []) ::
  (256, .invokevirtual 30, 3, 160, 1, 13, .null, []) ::
  (259, .if_icmp .eq 711, 3, 970, 0, 0, .null, []) ::
  (262, .iconst 0, 1, 0, 0, 0, .int 0, []) ::
  (263, .ireturn, 1, 0, 0, 0, .null, []) ::
  (264, .aload_n 1, 1, 0, 0, 0, .null, []) ::
  (265, .aload_n 0, 1, 0, 0, 0, .null, []) ::
  (266, .iload_n 3, 1, 0, 0, 0, .null, []) ::
  (267, .iconst 1, 1, 0, 0, 0, .int 1, []) ::
  (268, .iadd, 1, 0, 0, 0, .null, []) ::
  (269, .iaload, 1, 0, 0, 1, .null, []) ::
  (270, .aload_n 0, 1, 0, 0, 0, .null, []) ::
  (271, .iload_n 3, 1, 0, 0, 0, .null, []) ::
  (272, .iconst 2, 1, 0, 0, 0, .int 2, []) ::
  (273, .iadd, 1, 0, 0, 0, .null, []) ::
  (274, .iaload, 1, 0, 0, 1, .null, []) ::
  (275, .invokevirtual 31, 3, 102, 2, 12, .null, []) ::
  (278, .aload_n 2, 1, 0, 0, 0, .null, []) ::
  (279, .aload_n 0, 1, 0, 0, 0, .null, []) ::
  (280, .iload_n 3, 1, 0, 0, 0, .null, []) ::
  (281, .iconst 1, 1, 0, 0, 0, .int 1, []) ::
  (282, .iadd, 1, 0, 0, 0, .null, []) ::
  (283, .iaload, 1, 0, 0, 1, .null, []) ::
  (284, .aload_n 0, 1, 0, 0, 0, .null, []) ::
  (285, .iload_n 3, 1, 0, 0, 0, .null, []) ::
  (286, .iconst 2, 1, 0, 0, 0, .int 2, []) ::
  (287, .iadd, 1, 0, 0, 0, .null, []) ::
  (288, .iaload, 1, 0, 0, 1, .null, []) ::
  (289, .invokevirtual 34, 3, 163, 2, 13, .null, []) ::
  (292, .if_icmp .eq 678, 3, 970, 0, 0, .null, []) ::
  (295, .iconst 0, 1, 0, 0, 0, .int 0, []) ::
  (296, .ireturn, 1, 0, 0, 0, .null, []) ::
  (297, .aload_n 1, 1, 0, 0, 0, .null, []) ::
  (298, .aload_n 0, 1, 0, 0, 0, .null, []) ::
  (299, .iload_n 3, 1, 0, 0, 0, .null, []) ::
  (300, .iconst 1, 1, 0, 0, 0, .int 1, []) ::
  (301, .iadd, 1, 0, 0, 0, .null, []) ::
  (302, .iaload, 1, 0, 0, 1, .null, []) ::
  (303, .invokevirtual 35, 3, 103, 1, 12, .null, []) ::
  (306, .aload_n 2, 1, 0, 0, 0, .null, []) ::
  (307, .aload_n 0, 1, 0, 0, 0, .null, []) ::
  (308, .iload_n 3, 1, 0, 0, 0, .null, []) ::
  (309, .iconst 1, 1, 0, 0, 0, .int 1, []) ::
  (310, .iadd, 1, 0, 0, 0, .null, []) ::
  (311, .iaload, 1, 0, 0, 1, .null, []) :: am_c_La_law_3
def am_c_La_law_1 : List am_E := (186, .aload_n 0, 1, 0, 0, 0, .null, []) ::
  (187, .iload_n 3, 1, 0, 0, 0, .null, []) ::
  (188, .iconst 1, 1, 0, 0, 0, .int 1, []) ::
  (189, .iadd, 1, 0, 0, 0, .null, []) ::
  (190, .iaload, 1, 0, 0, 1, .null, []) ::
  (191, .aload_n 0, 1, 0, 0, 0, .null, []) ::
  (192, .iload_n 3, 1, 0, 0, 0, .null, []) ::
  (193, .iconst 2, 1, 0, 0, 0, .int 2, []) ::
  (194, .iadd, 1, 0, 0, 0, .null, []) ::
  (195, .iaload, 1, 0, 0, 1, .null, []) ::
  (196, .invokevirtual 18, 3, 99, 2, 12, .null, []) ::
  (199, .aload_n 2, 1, 0, 0, 0, .null, []) ::
  (200, .aload_n 0, 1, 0, 0, 0, .null, []) ::
  (201, .iload_n 3, 1, 0, 0, 0, .null, []) ::
  (202, .iconst 1, 1, 0, 0, 0, .int 1, []) ::
  (203, .iadd, 1, 0, 0, 0, .null, []) ::
  (204, .iaload, 1, 0, 0, 1, .null, []) ::
  (205, .aload_n 0, 1, 0, 0, 0, .null, []) ::
  (206, .iload_n 3, 1, 0, 0, 0, .null, []) ::
  (207, .iconst 2, 1, 0, 0, 0, .int 2, []) ::
  (208, .iadd, 1, 0, 0, 0, .null, []) ::
  (209, .iaload, 1, 0, 0, 1, .null, []) ::
  (210, .invokevirtual 21, 3, 143, 2, 13, .null, []) ::
  (213, .if_icmp .eq 757, 3, 970, 0, 0, .null, []) ::
  (216, .iconst 0, 1, 0, 0, 0, .int 0, []) ::
  (217, .ireturn, 1, 0, 0, 0, .null, []) ::
  (218, .aload_n 1, 1, 0, 0, 0, .null, []) ::
  (219, .aload_n 0, 1, 0, 0, 0, .null, []) ::
  (220, .iload_n 3, 1, 0, 0, 0, .null, []) ::
  (221, .iconst 1, 1, 0, 0, 0, .int 1, []) ::
  (222, .iadd, 1, 0, 0, 0, .null, []) ::
  (223, .iaload, 1, 0, 0, 1, .null, []) ::
  (224, .invokevirtual 22, 3, 100, 1, 12, .null, []) ::
  (227, .aload_n 2, 1, 0, 0, 0, .null, []) ::
  (228, .aload_n 0, 1, 0, 0, 0, .null, []) ::
  (229, .iload_n 3, 1, 0, 0, 0, .null, []) ::
  (230, .iconst 1, 1, 0, 0, 0, .int 1, []) ::
  (231, .iadd, 1, 0, 0, 0, .null, []) ::
  (232, .iaload, 1, 0, 0, 1, .null, []) ::
  (233, .invokevirtual 26, 3, 147, 1, 13, .null, []) ::
  (236, .if_icmp .eq 734, 3, 970, 0, 0, .null, []) ::
  (239, .iconst 0, 1, 0, 0, 0, .int 0, []) ::
  (240, .ireturn, 1, 0, 0, 0, .null, []) ::
  (241, .aload_n 1, 1, 0, 0, 0, .null, []) ::
  (242, .aload_n 0, 1, 0, 0, 0, .null, []) ::
  (243, .iload_n 3, 1, 0, 0, 0, .null, []) ::
  (244, .iconst 1, 1, 0, 0, 0, .int 1, []) ::
  (245, .iadd, 1, 0, 0, 0, .null, []) ::
  (246, .iaload, 1, 0, 0, 1, .null, []) ::
  (247, .invokevirtual 27, 3, 101, 1, 12, .null, []) :: am_c_La_law_2
def am_c_La_law : List am_E := (0, .new 7, 3, 10, 0, 0, .null, []) ::
  (3, .dup, 1, 0, 0, 0, .null, []) ::
  (4, .invokespecial 9, 3, 97, 0, 0, .null, []) ::
  (7, .astore_n 1, 1, 0, 0, 0, .null, []) ::
  (8, .new 10, 3, 11, 0, 0, .null, []) ::
  (11, .dup, 1, 0, 0, 0, .null, []) ::
  (12, .invokespecial 12, 3, 132, 0, 0, .null, []) ::
  (15, .astore_n 2, 1, 0, 0, 0, .null, []) ::
  (16, .iconst 0, 1, 0, 0, 0, .int 0, []) ::
  (17, .istore_n 3, 1, 0, 0, 0, .null, []) ::
  (18, .iload_n 3, 1, 0, 0, 0, .null, [(0, 0)]) ::
  (19, .aload_n 0, 1, 0, 0, 0, .null, []) ::
  (20, .arraylength, 1, 0, 0, 0, .null, []) ::
  (21, .bipush 6, 2, 0, 0, 0, .int 6, []) ::
  (23, .isub, 1, 0, 0, 0, .null, []) ::
  (24, .if_icmp .gt 952, 3, 976, 0, 0, .null, []) ::
  (27, .aload_n 0, 1, 0, 0, 0, .null, []) ::
  (28, .iload_n 3, 1, 0, 0, 0, .null, []) ::
  (29, .iaload, 1, 0, 0, 1, .null, []) ::
  (30, .bipush 31, 2, 0, 0, 0, .int 31, []) ::
  (32, .iand, 1, 0, 0, 0, .null, []) ::
  (33, .tableswitch 937 0 25 #[119, 152, 185, 208, 231, 264, 287, 320, 343, 386, 409, 432, 455, 478, 491, 514, 527, 550, 563, 576, 629, 682, 725, 768, 791, 874], 119, 970, 0, 0, .null, [(0, 152), (1, 185), (2, 218), (3, 241), (4, 264), (5, 297), (6, 320), (7, 353), (8, 376), (9, 419), (10, 442), (11, 465), (12, 488), (13, 511), (14, 524), (15, 547), (16, 560), (17, 583), (18, 596), (19, 609), (20, 662), (21, 715), (22, 758), (23, 801), (24, 824), (25, 907)]) ::
  (152, .aload_n 1, 1, 0, 0, 0, .null, []) ::
  (153, .aload_n 0, 1, 0, 0, 0, .null, []) ::
  (154, .iload_n 3, 1, 0, 0, 0, .null, []) ::
  (155, .iconst 1, 1, 0, 0, 0, .int 1, []) ::
  (156, .iadd, 1, 0, 0, 0, .null, []) ::
  (157, .iaload, 1, 0, 0, 1, .null, []) ::
  (158, .aload_n 0, 1, 0, 0, 0, .null, []) ::
  (159, .iload_n 3, 1, 0, 0, 0, .null, []) ::
  (160, .iconst 2, 1, 0, 0, 0, .int 2, []) ::
  (161, .iadd, 1, 0, 0, 0, .null, []) ::
  (162, .iaload, 1, 0, 0, 1, .null, []) ::
  (163, .invokevirtual 13, 3, 98, 2, 12, .null, []) ::
  (166, .aload_n 2, 1, 0, 0, 0, .null, []) ::
  (167, .aload_n 0, 1, 0, 0, 0, .null, []) ::
  (168, .iload_n 3, 1, 0, 0, 0, .null, []) ::
  (169, .iconst 1, 1, 0, 0, 0, .int 1, []) ::
  (170, .iadd, 1, 0, 0, 0, .null, []) ::
  (171, .iaload, 1, 0, 0, 1, .null, []) ::
  (172, .aload_n 0, 1, 0, 0, 0, .null, []) ::
  (173, .iload_n 3, 1, 0, 0, 0, .null, []) ::
  (174, .iconst 2, 1, 0, 0, 0, .int 2, []) ::
  (175, .iadd, 1, 0, 0, 0, .null, []) ::
  (176, .iaload, 1, 0, 0, 1, .null, []) ::
  (177, .invokevirtual 17, 3, 141, 2, 13, .null, []) ::
  (180, .if_icmp .eq 790, 3, 970, 0, 0, .null, []) ::
  (183, .iconst 0, 1, 0, 0, 0, .int 0, []) ::
  (184, .ireturn, 1, 0, 0, 0, .null, []) ::
  (185, .aload_n 1, 1, 0, 0, 0, .null, []) :: am_c_La_law_1
def am_tab : List (List am_E × Nat × Option FieldType) := [(am_c_J6_bitCount, 1, (some .int)),
  (am_c_Hi_init, 2, none),
  (am_c_Hi_note, 2, none),
  (am_c_Hi_loseOldest, 3, none),
  (am_c_Hi_takeBack, 2, none),
  (am_c_Hi_becomes, 3, none),
  (am_c_Ho_init, 1, none),
  (am_c_Ho_look, 3, none),
  (am_c_Ho_ofCount, 4, (some .int)),
  (am_c_Ho_turnedBy, 4, (some .int)),
  (am_c_Ho_faults, 3, (some .int)),
  (am_c_Ho_isFree, 2, (some .boolean)),
  (am_c_Ho_freeSets, 3, (some .int)),
  (am_c_Ho_leastFree, 2, (some .int)),
  (am_c_Pa_init, 1, none),
  (am_c_Pa_most, 1, (some .int)),
  (am_c_Pa_solve, 5, none),
  (am_c_Pa_begin, 4, none),
  (am_c_Pa_entering, 3, (some .int)),
  (am_c_Pa_leaving, 4, (some .int)),
  (am_c_Pa_isAhead, 6, (some .boolean)),
  (am_c_Pa_pivot, 5, none),
  (am_c_Pa_clearBy, 7, none),
  (am_c_Pl_init, 1, none),
  (am_c_Pl_becomeAll, 3, none),
  (am_c_Pl_moveIn, 4, none),
  (am_c_Pl_placeOf, 3, (some .int)),
  (am_c_Pl_become, 6, none),
  (am_c_Pl_lose, 3, none),
  (am_c_Pl_weightOn, 7, (some .int)),
  (am_c_Pl_greatestWeight, 5, (some .int)),
  (am_c_Pr_init, 5, none),
  (am_c_Pr_play, 6, none),
  (am_c_Pr_playLost, 6, none),
  (am_c_Pr_placeOf, 3, (some .int)),
  (am_c_Pr_openOf, 3, (some .int)),
  (am_c_Pr_isOver, 3, (some .boolean)),
  (am_c_Pr_probesFrom, 6, (some .int)),
  (am_c_Pr_probesBy, 4, (some .int)),
  (am_c_Pr_worst, 1, (some .int)),
  (am_c_Pr_best, 3, (some .int)),
  (am_c_Re_init, 1, none),
  (am_c_Re_faultOfTape, 3, (some .int)),
  (am_c_Re_faultUnless, 2, (some .int)),
  (am_c_Re_skipName, 1, none),
  (am_c_Re_isName, 5, (some .boolean)),
  (am_c_Re_next, 1, (some .char)),
  (am_c_Re_skips, 2, (some .boolean)),
  (am_c_Re_figure, 3, (some .int)),
  (am_c_Re_ends, 1, (some .boolean)),
  (am_c_Re_isTold, 3, (some .boolean)),
  (am_c_Re_tell, 2, none),
  (am_c_Re_majority, 2, (some .boolean)),
  (am_c_Re_grid, 6, (some .boolean)),
  (am_c_Re_wallRow, 2, (some .int)),
  (am_c_Re_wall, 2, (some .boolean)),
  (am_c_Re_isWallTold, 5, (some .boolean)),
  (am_c_Re_waysBelow, 4, (some .int)),
  (am_c_Re_chosenBelow, 8, (some .int)),
  (am_c_Re_plane, 2, (some .boolean)),
  (am_c_Re_figures, 2, (some .boolean)),
  (am_c_Re_isGroupTold, 3, (some .boolean)),
  (am_c_Ro_init, 1, none),
  (am_c_Ro_takes, 9, (some .boolean)),
  (am_c_Ro_nature, 3, (some .int)),
  (am_c_Ro_anyTwoMeet, 3, (some .boolean)),
  (am_c_Ro_isNonePart, 3, (some .boolean)),
  (am_c_Ro_isOneCount, 2, (some .boolean)),
  (am_c_Ro_isEven, 3, (some .boolean)),
  (am_c_Ro_timesOf, 4, (some .int)),
  (am_c_Ro_isJustGroups, 5, (some .boolean)),
  (am_c_Sh_init, 1, none),
  (am_c_Sh_begin, 4, none),
  (am_c_Sh_spans, 3, (some .boolean)),
  (am_c_Sh_refusal, 4, (some .int)),
  (am_c_Sh_at, 2, (some .long)),
  (am_c_Sh_put, 4, none),
  (am_c_Sh_lowestBits, 3, (some .long)),
  (am_c_St_init, 1, none),
  (am_c_St_becomes, 2, none),
  (am_c_St_becomesTold, 2, none),
  (am_c_St_all, 1, (some .int)),
  (am_c_St_isPart, 2, (some .boolean)),
  (am_c_St_isSet, 2, (some .boolean)),
  (am_c_St_hasBeyond, 3, (some .boolean)),
  (am_c_St_placeOf, 3, (some .int)),
  (am_c_St_append, 2, none),
  (am_c_St_removeAt, 3, none),
  (am_c_St_drawTurn, 4, none),
  (am_c_St_holdsGroup, 3, (some .boolean)),
  (am_c_St_isSuperfluous, 3, (some .boolean)),
  (am_c_St_leastCommonOf, 5, (some .int)),
  (am_c_St_groupsWith, 4, (some .int)),
  (am_c_St_common, 4, (some .int)),
  (am_c_Ta_init, 1, none),
  (am_c_Ta_append, 2, none),
  (am_c_Ta_at, 2, (some .char)),
  (am_c_MG_init, 2, none),
  (am_c_MG_group, 3, (some .int)),
  (am_c_MG_element, 4, (some .int)),
  (am_c_MG_count, 2, (some .int)),
  (am_c_MG_load, 2, (some .int)),
  (am_c_MG_plan, 6, (some .int)),
  (am_c_MG_standing, 2, (some .int)),
  (am_c_MG_stands, 5, (some .int)),
  (am_c_MG_free, 2, (some .int)),
  (am_c_MG_probe, 4, (some .int)),
  (am_c_MG_add, 2, (some .int)),
  (am_c_MG_out, 3, (some .int)),
  (am_c_MG_size, 3, (some .int)),
  (am_c_MG_type, 2, (some .int)),
  (am_c_MG_read, 2, (some .int)),
  (am_c_MG_drift, 3, (some .int)),
  (am_c_MG_undo, 1, (some .int)),
  (am_c_MG_seed, 3, (some .int)),
  (am_c_MG_image, 1, (some .int)),
  (am_c_MG_restore, 1, (some .int)),
  (am_c_MG_keep, 6, (some .int)),
  (am_c_MG_what, 6, (some .int)),
  (am_c_MG_film, 6, (some .int)),
  (am_c_MG_sheet, 4, (some .int)),
  (am_c_MG_drop, 2, (some .int)),
  (am_c_MG_item, 7, (some .int)),
  (am_c_MG_copy, 8, (some .int)),
  (am_c_MG_isSheet, 1, (some .boolean)),
  (am_c_MG_isLane, 1, (some .boolean)),
  (am_c_MG_oneIf, 1, (some .int)),
  (am_c_MG_strength, 4, (some .int)),
  (am_c_MG_power, 4, (some .int)),
  (am_c_MG_ofFraction, 4, (some .int)),
  (am_c_MG_commonDivisor, 6, (some .int)),
  (am_c_MD_in, 6, (some .boolean)),
  (am_c_MD_init, 2, none),
  (am_c_MD_has, 2, (some .boolean)),
  (am_c_MD_bits, 3, (some .int)),
  (am_c_MD_all, 1, (some .int)),
  (am_c_MD_at, 2, (some .int)),
  (am_c_MD_find, 4, (some .int)),
  (am_c_MD_holds, 4, (some .boolean)),
  (am_c_MD_isMore, 4, (some .boolean)),
  (am_c_MD_leastWith, 5, (some .int)),
  (am_c_MD_group, 3, (some .int)),
  (am_c_MD_turns, 4, (some .int)),
  (am_c_MD_element, 5, (some .int)),
  (am_c_MD_common, 5, (some .int)),
  (am_c_MD_faults, 3, (some .int)),
  (am_c_MD_liars, 4, (some .int)),
  (am_c_MD_count, 2, (some .int)),
  (am_c_MD_reduces, 6, none),
  (am_c_MD_nth, 4, (some .int)),
  (am_c_MD_squares, 7, none),
  (am_c_MD_swaps, 5, none),
  (am_c_MD_solves, 9, (some .int)),
  (am_c_MD_takes, 7, (some .boolean)),
  (am_c_MD_clears, 2, none),
  (am_c_MD_bears, 6, (some .boolean)),
  (am_c_MD_loadOf, 4, (some .int)),
  (am_c_MD_evens, 8, (some .boolean)),
  (am_c_MD_slim, 3, (some .int)),
  (am_c_MD_loads, 6, none),
  (am_c_MD_load, 2, (some .int)),
  (am_c_MD_planAt, 4, (some .int)),
  (am_c_MD_weighs, 5, (some .int)),
  (am_c_MD_plan, 8, (some .int)),
  (am_c_MD_drops, 3, none),
  (am_c_MD_keep, 11, (some .int)),
  (am_c_MD_standing, 4, (some .int)),
  (am_c_MD_stands, 8, (some .int)),
  (am_c_MD_isFree, 4, (some .boolean)),
  (am_c_MD_free, 5, (some .int)),
  (am_c_MD_power, 3, (some .int)),
  (am_c_MD_digit, 2, (some .int)),
  (am_c_MD_those, 5, (some .int)),
  (am_c_MD_probesOf, 7, none),
  (am_c_MD_probe, 6, (some .int)),
  (am_c_MD_add, 2, (some .int)),
  (am_c_MD_comes, 2, none),
  (am_c_MD_goes, 3, none),
  (am_c_MD_out, 3, (some .int)),
  (am_c_MD_size, 5, (some .int)),
  (am_c_MD_drift, 7, (some .int)),
  (am_c_MD_seed, 3, (some .int)),
  (am_c_MD_type, 2, (some .int)),
  (am_c_MD_here, 1, (some .int)),
  (am_c_MD_figure, 4, (some .int)),
  (am_c_MD_gets, 2, none),
  (am_c_MD_isGot, 4, (some .boolean)),
  (am_c_MD_majority, 3, (some .boolean)),
  (am_c_MD_grid, 7, (some .boolean)),
  (am_c_MD_wall, 4, (some .boolean)),
  (am_c_MD_walls, 10, none),
  (am_c_MD_plane, 2, (some .boolean)),
  (am_c_MD_told, 2, (some .boolean)),
  (am_c_MD_one, 3, (some .boolean)),
  (am_c_MD_isName, 7, (some .boolean)),
  (am_c_MD_isText, 3, (some .boolean)),
  (am_c_MD_read, 4, (some .int)),
  (am_c_MD_notes, 2, none),
  (am_c_MD_undo, 2, (some .int)),
  (am_c_MD_image, 2, (some .int)),
  (am_c_MD_restore, 2, (some .int)),
  (am_c_MD_isSheet, 1, (some .boolean)),
  (am_c_MD_cut, 3, (some .long)),
  (am_c_MD_sheet, 5, (some .int)),
  (am_c_MD_drop, 2, (some .int)),
  (am_c_MD_why, 5, (some .int)),
  (am_c_MD_item, 7, (some .int)),
  (am_c_MD_copy, 7, (some .int)),
  (am_c_MD_row, 3, (some .int)),
  (am_c_MD_ofTwo, 10, (some .boolean)),
  (am_c_MD_isEven, 8, (some .boolean)),
  (am_c_MD_isJust, 7, (some .boolean)),
  (am_c_MD_what, 9, (some .int)),
  (am_c_MD_film, 6, (some .int)),
  (am_c_La_law, 4, (some .boolean))]
def am_code (y : Nat) : List am_E := (am_tab.getD y ([], 0, none)).1
def am_max (y : Nat) : Nat := (am_tab.getD y ([], 0, none)).2.1
def am_ret (y : Nat) : Option FieldType := (am_tab.getD y ([], 0, none)).2.2
