/-! the methods' table: printed by program -/
abbrev mq_0 : zz_Mt := (yX0_init, cX0_init, 1, none, 2, 14)
abbrev mq_1 : zz_Mt := (yX4_init, cX4_init, 1, none, 1, 6)
abbrev mq_2 : zz_Mt := (yX1_init, cX1_init, 1, none, 2, 8)
abbrev mq_3 : zz_Mt := (yX2_init, cX2_init, 2, none, 12, 203)
abbrev mq_4 : zz_Mt := (yX3_init, cX3_init, 1, none, 6, 96)
abbrev mq_5 : zz_Mt := (yX5_init, cX5_init, 1, none, 5, 31)
abbrev mq_6 : zz_Mt := (yX6_init, cX6_init, 3, none, 1, 6)
abbrev mq_7 : zz_Mt := (yX7_init, cX7_init, 1, none, 200, 3000)
abbrev mq_8 : zz_Mt := (yX8_init, cX8_init, 2, none, 100, 9000)
abbrev mq_9 : zz_Mt := (yJ6_bitCount_0f7a4, cJ6_bitCount_0f7a4, 1, (some .int), 0, 0)
abbrev mq_10 : zz_Mt := (yJ13_bitCount_95d88, cJ13_bitCount_95d88, 2, (some .int), 0, 0)
abbrev mq_11 : zz_Mt := (yX6_isNumber, cX6_isNumber, 2, (some .boolean), 0, 0)
abbrev mq_12 : zz_Mt := (yX6_isThere, cX6_isThere, 2, (some .boolean), 0, 0)
abbrev mq_13 : zz_Mt := (yX6_isPlace, cX6_isPlace, 3, (some .boolean), 0, 0)
abbrev mq_14 : zz_Mt := (yX6_holds, cX6_holds, 4, (some .boolean), 0, 0)
abbrev mq_15 : zz_Mt := (yX6_sizeOf, cX6_sizeOf, 2, (some .int), 0, 0)
abbrev mq_16 : zz_Mt := (yX6_placeOf, cX6_placeOf, 3, (some .int), 0, 0)
abbrev mq_17 : zz_Mt := (yX6_replace, cX6_replace, 5, (some .int), 0, 0)
abbrev mq_18 : zz_Mt := (yX6_renew, cX6_renew, 5, none, 0, 0)
abbrev mq_19 : zz_Mt := (yX6_remove, cX6_remove, 2, none, 0, 0)
abbrev mq_20 : zz_Mt := (yX6_carry, cX6_carry, 6, none, 0, 0)
abbrev mq_21 : zz_Mt := (yX6_sumOf, cX6_sumOf, 6, (some .long), 0, 0)
abbrev mq_22 : zz_Mt := (yX6_howManyThere, cX6_howManyThere, 3, (some .int), 0, 0)
abbrev mq_23 : zz_Mt := (yX6_mixInto, cX6_mixInto, 7, (some .long), 0, 0)
abbrev mq_24 : zz_Mt := (yX5_read, cX5_read, 5, (some .int), 0, 0)
abbrev mq_25 : zz_Mt := (yX5_skipBlanks, cX5_skipBlanks, 4, none, 0, 0)
abbrev mq_26 : zz_Mt := (yX5_takeHeats, cX5_takeHeats, 5, (some .boolean), 0, 0)
abbrev mq_27 : zz_Mt := (yX5_takePiece, cX5_takePiece, 9, (some .boolean), 0, 0)
abbrev mq_28 : zz_Mt := (yX5_takeFigure, cX5_takeFigure, 5, (some .int), 0, 0)
abbrev mq_29 : zz_Mt := (yX5_kindOf, cX5_kindOf, 2, (some .int), 0, 0)
abbrev mq_30 : zz_Mt := (yX2_furnish, cX2_furnish, 3, none, 0, 0)
abbrev mq_31 : zz_Mt := (yX2_isPiece, cX2_isPiece, 2, (some .boolean), 0, 0)
abbrev mq_32 : zz_Mt := (yX2_isPair, cX2_isPair, 3, (some .boolean), 0, 0)
abbrev mq_33 : zz_Mt := (yX2_isOf, cX2_isOf, 3, (some .boolean), 0, 0)
abbrev mq_34 : zz_Mt := (yX2_kindOf, cX2_kindOf, 2, (some .int), 0, 0)
abbrev mq_35 : zz_Mt := (yX2_rateOf, cX2_rateOf, 2, (some .int), 0, 0)
abbrev mq_36 : zz_Mt := (yX2_floorOf, cX2_floorOf, 2, (some .int), 0, 0)
abbrev mq_37 : zz_Mt := (yX2_strikesOf, cX2_strikesOf, 2, (some .int), 0, 0)
abbrev mq_38 : zz_Mt := (yX2_wasTouched, cX2_wasTouched, 2, (some .boolean), 0, 0)
abbrev mq_39 : zz_Mt := (yX2_partOf, cX2_partOf, 3, (some .int), 0, 0)
abbrev mq_40 : zz_Mt := (yX2_howManyAre, cX2_howManyAre, 4, (some .int), 0, 0)
abbrev mq_41 : zz_Mt := (yX2_heatOf, cX2_heatOf, 2, (some .int), 0, 0)
abbrev mq_42 : zz_Mt := (yX2_heatAfter, cX2_heatAfter, 2, (some .int), 0, 0)
abbrev mq_43 : zz_Mt := (yX2_warmthOver, cX2_warmthOver, 5, (some .int), 0, 0)
abbrev mq_44 : zz_Mt := (yX2_minuteAfter, cX2_minuteAfter, 4, (some .int), 0, 0)
abbrev mq_45 : zz_Mt := (yX2_strikingAfter, cX2_strikingAfter, 4, (some .long), 0, 0)
abbrev mq_46 : zz_Mt := (yX2_willMeet, cX2_willMeet, 5, (some .boolean), 0, 0)
abbrev mq_47 : zz_Mt := (yX2_lastStrike, cX2_lastStrike, 2, (some .int), 0, 0)
abbrev mq_48 : zz_Mt := (yX2_gainToday, cX2_gainToday, 2, (some .int), 0, 0)
abbrev mq_49 : zz_Mt := (yX2_idleDays, cX2_idleDays, 4, (some .int), 0, 0)
abbrev mq_50 : zz_Mt := (yX2_visitorsOf, cX2_visitorsOf, 6, (some .int), 0, 0)
abbrev mq_51 : zz_Mt := (yX2_hasPlaceForDeeds, cX2_hasPlaceForDeeds, 2, (some .boolean), 0, 0)
abbrev mq_52 : zz_Mt := (yX2_passDay, cX2_passDay, 1, none, 0, 0)
abbrev mq_53 : zz_Mt := (yX2_turn, cX2_turn, 3, none, 0, 0)
abbrev mq_54 : zz_Mt := (yX2_turnByLot, cX2_turnByLot, 4, none, 0, 0)
abbrev mq_55 : zz_Mt := (yX2_perform, cX2_perform, 3, none, 0, 0)
abbrev mq_56 : zz_Mt := (yX2_gainAll, cX2_gainAll, 3, none, 0, 0)
abbrev mq_57 : zz_Mt := (yX2_goBackTo, cX2_goBackTo, 3, none, 0, 0)
abbrev mq_58 : zz_Mt := (yX2_keptDeeds, cX2_keptDeeds, 2, (some .int), 0, 0)
abbrev mq_59 : zz_Mt := (yX2_howManyKept, cX2_howManyKept, 3, (some .int), 0, 0)
abbrev mq_60 : zz_Mt := (yX2_keepIn, cX2_keepIn, 3, none, 0, 0)
abbrev mq_61 : zz_Mt := (yX2_goOnFrom, cX2_goOnFrom, 3, none, 0, 0)
abbrev mq_62 : zz_Mt := (yX4_see, cX4_see, 5, none, 0, 0)
abbrev mq_63 : zz_Mt := (yX4_doMeet, cX4_doMeet, 3, (some .boolean), 0, 0)
abbrev mq_64 : zz_Mt := (yX4_isSeen, cX4_isSeen, 2, (some .boolean), 0, 0)
abbrev mq_65 : zz_Mt := (yX4_anyMeet, cX4_anyMeet, 4, (some .boolean), 0, 0)
abbrev mq_66 : zz_Mt := (yX4_sounding, cX4_sounding, 4, (some .long), 0, 0)
abbrev mq_67 : zz_Mt := (yX4_companyOf, cX4_companyOf, 4, (some .int), 0, 0)
abbrev mq_68 : zz_Mt := (yX4_pairs, cX4_pairs, 3, (some .int), 0, 0)
abbrev mq_69 : zz_Mt := (yX4_whoMeets, cX4_whoMeets, 3, (some .int), 0, 0)
abbrev mq_70 : zz_Mt := (yX4_leastPair, cX4_leastPair, 3, (some .int), 0, 0)
abbrev mq_71 : zz_Mt := (yX4_shift, cX4_shift, 3, none, 0, 0)
abbrev mq_72 : zz_Mt := (yX3_look, cX3_look, 6, none, 0, 0)
abbrev mq_73 : zz_Mt := (yX3_noteGaps, cX3_noteGaps, 6, none, 0, 0)
abbrev mq_74 : zz_Mt := (yX3_barredShifts, cX3_barredShifts, 8, (some .int), 0, 0)
abbrev mq_75 : zz_Mt := (yX3_meetBy, cX3_meetBy, 5, (some .boolean), 0, 0)
abbrev mq_76 : zz_Mt := (yX3_doomedPairs, cX3_doomedPairs, 3, (some .int), 0, 0)
abbrev mq_77 : zz_Mt := (yX3_leastDoomed, cX3_leastDoomed, 2, (some .int), 0, 0)
abbrev mq_78 : zz_Mt := (yX3_fewestOut, cX3_fewestOut, 3, (some .int), 0, 0)
abbrev mq_79 : zz_Mt := (yX3_agreeWithout, cX3_agreeWithout, 4, (some .boolean), 0, 0)
abbrev mq_80 : zz_Mt := (yX3_findTouches, cX3_findTouches, 2, (some .boolean), 0, 0)
abbrev mq_81 : zz_Mt := (yX3_search, cX3_search, 4, none, 0, 0)
abbrev mq_82 : zz_Mt := (yX3_fits, cX3_fits, 4, (some .boolean), 0, 0)
abbrev mq_83 : zz_Mt := (yX3_costWith, cX3_costWith, 4, (some .int), 0, 0)
abbrev mq_84 : zz_Mt := (yX3_bestTouch, cX3_bestTouch, 2, (some .int), 0, 0)
abbrev mq_85 : zz_Mt := (yX3_bestTouched, cX3_bestTouched, 1, (some .int), 0, 0)
abbrev mq_86 : zz_Mt := (yX3_bestStairs, cX3_bestStairs, 1, (some .int), 0, 0)
abbrev mq_87 : zz_Mt := (yX3_bestSet, cX3_bestSet, 1, (some .int), 0, 0)
abbrev mq_88 : zz_Mt := (yX1_isKeptApart, cX1_isKeptApart, 3, (some .boolean), 0, 0)
abbrev mq_89 : zz_Mt := (yX1_keepingMove, cX1_keepingMove, 4, (some .int), 0, 0)
abbrev mq_90 : zz_Mt := (yX1_endsApart, cX1_endsApart, 4, (some .boolean), 0, 0)
abbrev mq_91 : zz_Mt := (yX1_endsApartBy, cX1_endsApartBy, 5, (some .boolean), 0, 0)
abbrev mq_92 : zz_Mt := (yX0_tellMeeting, cX0_tellMeeting, 16, none, 0, 0)
abbrev mq_93 : zz_Mt := (yX0_countWays, cX0_countWays, 5, none, 0, 0)
abbrev mq_94 : zz_Mt := (yX0_tell, cX0_tell, 12, none, 0, 0)
abbrev mq_95 : zz_Mt := (yX7_row, cX7_row, 3, (some .int), 0, 0)
abbrev mq_96 : zz_Mt := (yX7_lay, cX7_lay, 5, (some .int), 0, 0)
abbrev mq_97 : zz_Mt := (yX7_at, cX7_at, 4, (some .int), 0, 0)
abbrev mq_98 : zz_Mt := (yX7_tear, cX7_tear, 3, (some .int), 0, 0)
abbrev mq_99 : zz_Mt := (yX7_copy, cX7_copy, 6, (some .int), 0, 0)
abbrev mq_100 : zz_Mt := (yX7_mean, cX7_mean, 4, (some .int), 0, 0)
abbrev mq_101 : zz_Mt := (yX7_text, cX7_text, 3, (some .int), 0, 0)
abbrev mq_102 : zz_Mt := (yX7_put, cX7_put, 5, (some .int), 0, 0)
abbrev mq_103 : zz_Mt := (yX7_fault, cX7_fault, 3, (some .int), 0, 0)
abbrev mq_104 : zz_Mt := (yX7_house, cX7_house, 3, (some .int), 0, 0)
abbrev mq_105 : zz_Mt := (yX7_piece, cX7_piece, 3, (some .int), 0, 0)
abbrev mq_106 : zz_Mt := (yX7_mark, cX7_mark, 3, (some .int), 0, 0)
abbrev mq_107 : zz_Mt := (yX7_heat, cX7_heat, 2, (some .int), 0, 0)
abbrev mq_108 : zz_Mt := (yX7_day, cX7_day, 1, (some .int), 0, 0)
abbrev mq_109 : zz_Mt := (yX7_touch, cX7_touch, 3, (some .int), 0, 0)
abbrev mq_110 : zz_Mt := (yX7_undo, cX7_undo, 3, (some .int), 0, 0)
abbrev mq_111 : zz_Mt := (yX7_keep, cX7_keep, 2, (some .int), 0, 0)
abbrev mq_112 : zz_Mt := (yX7_on, cX7_on, 2, (some .int), 0, 0)
abbrev mq_113 : zz_Mt := (yX7_minute, cX7_minute, 3, (some .int), 0, 0)
abbrev mq_114 : zz_Mt := (yX7_meet, cX7_meet, 5, (some .int), 0, 0)
abbrev mq_115 : zz_Mt := (yX7_meets, cX7_meets, 2, (some .int), 0, 0)
abbrev mq_116 : zz_Mt := (yX7_soon, cX7_soon, 3, (some .int), 0, 0)
abbrev mq_117 : zz_Mt := (yX7_often, cX7_often, 7, (some .int), 0, 0)
abbrev mq_118 : zz_Mt := (yX7_sounds, cX7_sounds, 2, (some .int), 0, 0)
abbrev mq_119 : zz_Mt := (yX7_room, cX7_room, 8, (some .int), 0, 0)
abbrev mq_120 : zz_Mt := (yX7_right, cX7_right, 7, (some .int), 0, 0)
abbrev mq_121 : zz_Mt := (yX7_apart, cX7_apart, 4, (some .int), 0, 0)
abbrev mq_122 : zz_Mt := (yX7_stairs, cX7_stairs, 2, (some .int), 0, 0)
abbrev mq_123 : zz_Mt := (yX7_doomed, cX7_doomed, 2, (some .int), 0, 0)
abbrev mq_124 : zz_Mt := (yX7_out, cX7_out, 2, (some .int), 0, 0)
abbrev mq_125 : zz_Mt := (yX7_late, cX7_late, 3, (some .int), 0, 0)
abbrev mq_126 : zz_Mt := (yX7_rates, cX7_rates, 6, (some .int), 0, 0)
abbrev mq_127 : zz_Mt := (yX7_kinds, cX7_kinds, 6, (some .int), 0, 0)
abbrev mq_128 : zz_Mt := (yX7_from, cX7_from, 7, (some .int), 0, 0)
abbrev mq_129 : zz_Mt := (yX7_cat, cX7_cat, 2, (some .int), 0, 0)
abbrev mq_130 : zz_Mt := (yX7_first, cX7_first, 2, (some .int), 0, 0)
abbrev mq_131 : zz_Mt := (yX7_odds, cX7_odds, 5, (some .int), 0, 0)
abbrev mq_132 : zz_Mt := (yX7_mid, cX7_mid, 4, (some .int), 0, 0)
abbrev mq_133 : zz_Mt := (yX7_lots, cX7_lots, 6, (some .int), 0, 0)
abbrev mq_134 : zz_Mt := (yX7_asked, cX7_asked, 1, (some .int), 0, 0)
abbrev mq_135 : zz_Mt := (yX7_upper, cX7_upper, 1, (some .long), 0, 0)
abbrev mq_136 : zz_Mt := (yX7_lower, cX7_lower, 1, (some .long), 0, 0)
abbrev mq_137 : zz_Mt := (yX7_count, cX7_count, 2, (some .int), 0, 0)
abbrev mq_138 : zz_Mt := (yX7_finding, cX7_finding, 1, (some .int), 0, 0)
abbrev mq_139 : zz_Mt := (yX7_findings, cX7_findings, 2, (some .int), 0, 0)
abbrev mq_140 : zz_Mt := (yX7_digest, cX7_digest, 5, (some .long), 0, 0)
abbrev mq_141 : zz_Mt := (yX7_found, cX7_found, 2, (some .int), 0, 0)
abbrev mq_142 : zz_Mt := (yX7_refusalOfShelf, cX7_refusalOfShelf, 3, (some .int), 0, 0)
abbrev mq_143 : zz_Mt := (yX7_refusalOfPlace, cX7_refusalOfPlace, 5, (some .int), 0, 0)
abbrev mq_144 : zz_Mt := (yX7_refusalOfHeard, cX7_refusalOfHeard, 7, (some .int), 0, 0)
abbrev mq_145 : zz_Mt := (yX7_agrees, cX7_agrees, 9, (some .boolean), 0, 0)
abbrev mq_146 : zz_Mt := (yX7_lateOnes, cX7_lateOnes, 6, (some .int), 0, 0)
abbrev mq_147 : zz_Mt := (yX7_pairsNow, cX7_pairsNow, 1, (some .int), 0, 0)
abbrev mq_148 : zz_Mt := (yX7_tally, cX7_tally, 2, (some .int), 0, 0)
abbrev mq_149 : zz_Mt := (yX7_isFuture, cX7_isFuture, 1, (some .boolean), 0, 0)
abbrev mq_150 : zz_Mt := (yX7_isMinute, cX7_isMinute, 1, (some .boolean), 0, 0)
abbrev mq_151 : zz_Mt := (yX7_isDraught, cX7_isDraught, 1, (some .boolean), 0, 0)
abbrev mq_152 : zz_Mt := (yX7_isKind, cX7_isKind, 1, (some .boolean), 0, 0)
abbrev mq_153 : zz_Mt := (yX7_ring, cX7_ring, 2, (some .int), 0, 0)
abbrev mq_154 : zz_Mt := (yX7_run, cX7_run, 2, (some .long), 0, 0)
abbrev mq_155 : zz_Mt := (yX7_turned, cX7_turned, 3, (some .long), 0, 0)
abbrev mq_156 : zz_Mt := (yX7_gainOver, cX7_gainOver, 4, (some .int), 0, 0)
abbrev mq_157 : zz_Mt := (yX8_in, cX8_in, 6, (some .boolean), 0, 0)
abbrev mq_158 : zz_Mt := (yX8_has, cX8_has, 2, (some .boolean), 0, 0)
abbrev mq_159 : zz_Mt := (yX8_ones, cX8_ones, 3, (some .int), 0, 0)
abbrev mq_160 : zz_Mt := (yX8_round, cX8_round, 1, (some .int), 0, 0)
abbrev mq_161 : zz_Mt := (yX8_found, cX8_found, 2, (some .int), 0, 0)
abbrev mq_162 : zz_Mt := (yX8_tells, cX8_tells, 3, (some .int), 0, 0)
abbrev mq_163 : zz_Mt := (yX8_copyAll, cX8_copyAll, 5, none, 0, 0)
abbrev mq_164 : zz_Mt := (yX8_isRow, cX8_isRow, 1, (some .boolean), 0, 0)
abbrev mq_165 : zz_Mt := (yX8_isText, cX8_isText, 1, (some .boolean), 0, 0)
abbrev mq_166 : zz_Mt := (yX8_anew, cX8_anew, 4, none, 0, 0)
abbrev mq_167 : zz_Mt := (yX8_row, cX8_row, 3, (some .int), 0, 0)
abbrev mq_168 : zz_Mt := (yX8_lay, cX8_lay, 5, (some .int), 0, 0)
abbrev mq_169 : zz_Mt := (yX8_at, cX8_at, 3, (some .int), 0, 0)
abbrev mq_170 : zz_Mt := (yX8_tear, cX8_tear, 2, (some .int), 0, 0)
abbrev mq_171 : zz_Mt := (yX8_fits, cX8_fits, 3, (some .boolean), 0, 0)
abbrev mq_172 : zz_Mt := (yX8_copy, cX8_copy, 7, (some .int), 0, 0)
abbrev mq_173 : zz_Mt := (yX8_mean, cX8_mean, 5, (some .int), 0, 0)
abbrev mq_174 : zz_Mt := (yX8_text, cX8_text, 4, (some .int), 0, 0)
abbrev mq_175 : zz_Mt := (yX8_put, cX8_put, 5, (some .int), 0, 0)
abbrev mq_176 : zz_Mt := (yX8_kindOf, cX8_kindOf, 1, (some .int), 0, 0)
abbrev mq_177 : zz_Mt := (yX8_byteAt, cX8_byteAt, 3, (some .int), 0, 0)
abbrev mq_178 : zz_Mt := (yX8_blanks, cX8_blanks, 2, none, 0, 0)
abbrev mq_179 : zz_Mt := (yX8_figure, cX8_figure, 4, (some .int), 0, 0)
abbrev mq_180 : zz_Mt := (yX8_takesHeat, cX8_takesHeat, 3, (some .boolean), 0, 0)
abbrev mq_181 : zz_Mt := (yX8_takesPiece, cX8_takesPiece, 8, (some .boolean), 0, 0)
abbrev mq_182 : zz_Mt := (yX8_faultOf, cX8_faultOf, 3, (some .int), 0, 0)
abbrev mq_183 : zz_Mt := (yX8_fault, cX8_fault, 2, (some .int), 0, 0)
abbrev mq_184 : zz_Mt := (yX8_house, cX8_house, 3, (some .int), 0, 0)
abbrev mq_185 : zz_Mt := (yX8_isPiece, cX8_isPiece, 2, (some .boolean), 0, 0)
abbrev mq_186 : zz_Mt := (yX8_spanOf, cX8_spanOf, 1, (some .int), 0, 0)
abbrev mq_187 : zz_Mt := (yX8_heatOf, cX8_heatOf, 2, (some .int), 0, 0)
abbrev mq_188 : zz_Mt := (yX8_gainOf, cX8_gainOf, 4, (some .int), 0, 0)
abbrev mq_189 : zz_Mt := (yX8_gainsIn, cX8_gainsIn, 6, (some .int), 0, 0)
abbrev mq_190 : zz_Mt := (yX8_minuteIn, cX8_minuteIn, 3, (some .int), 0, 0)
abbrev mq_191 : zz_Mt := (yX8_both, cX8_both, 5, (some .boolean), 0, 0)
abbrev mq_192 : zz_Mt := (yX8_areMet, cX8_areMet, 5, (some .boolean), 0, 0)
abbrev mq_193 : zz_Mt := (yX8_piece, cX8_piece, 3, (some .int), 0, 0)
abbrev mq_194 : zz_Mt := (yX8_pieceTells, cX8_pieceTells, 3, (some .int), 0, 0)
abbrev mq_195 : zz_Mt := (yX8_markOf, cX8_markOf, 7, (some .int), 0, 0)
abbrev mq_196 : zz_Mt := (yX8_mark, cX8_mark, 5, (some .int), 0, 0)
abbrev mq_197 : zz_Mt := (yX8_heat, cX8_heat, 2, (some .int), 0, 0)
abbrev mq_198 : zz_Mt := (yX8_minds, cX8_minds, 1, none, 0, 0)
abbrev mq_199 : zz_Mt := (yX8_standsIn, cX8_standsIn, 3, none, 0, 0)
abbrev mq_200 : zz_Mt := (yX8_pairs, cX8_pairs, 4, (some .int), 0, 0)
abbrev mq_201 : zz_Mt := (yX8_pairsNow, cX8_pairsNow, 1, (some .int), 0, 0)
abbrev mq_202 : zz_Mt := (yX8_passes, cX8_passes, 2, none, 0, 0)
abbrev mq_203 : zz_Mt := (yX8_day, cX8_day, 1, (some .int), 0, 0)
abbrev mq_204 : zz_Mt := (yX8_touches, cX8_touches, 3, none, 0, 0)
abbrev mq_205 : zz_Mt := (yX8_touch, cX8_touch, 3, (some .int), 0, 0)
abbrev mq_206 : zz_Mt := (yX8_undo, cX8_undo, 3, (some .int), 0, 0)
abbrev mq_207 : zz_Mt := (yX8_keep, cX8_keep, 2, (some .int), 0, 0)
abbrev mq_208 : zz_Mt := (yX8_on, cX8_on, 2, (some .int), 0, 0)
abbrev mq_209 : zz_Mt := (yX8_isSpan, cX8_isSpan, 1, (some .boolean), 0, 0)
abbrev mq_210 : zz_Mt := (yX8_minute, cX8_minute, 3, (some .int), 0, 0)
abbrev mq_211 : zz_Mt := (yX8_areTwo, cX8_areTwo, 3, (some .boolean), 0, 0)
abbrev mq_212 : zz_Mt := (yX8_begins, cX8_begins, 3, none, 0, 0)
abbrev mq_213 : zz_Mt := (yX8_goes, cX8_goes, 4, none, 0, 0)
abbrev mq_214 : zz_Mt := (yX8_meetOf, cX8_meetOf, 4, (some .int), 0, 0)
abbrev mq_215 : zz_Mt := (yX8_meet, cX8_meet, 3, (some .int), 0, 0)
abbrev mq_216 : zz_Mt := (yX8_meets, cX8_meets, 3, (some .int), 0, 0)
abbrev mq_217 : zz_Mt := (yX8_soon, cX8_soon, 6, (some .int), 0, 0)
abbrev mq_218 : zz_Mt := (yX8_often, cX8_often, 6, (some .int), 0, 0)
abbrev mq_219 : zz_Mt := (yX8_rings, cX8_rings, 5, none, 0, 0)
abbrev mq_220 : zz_Mt := (yX8_sounds, cX8_sounds, 4, (some .int), 0, 0)
abbrev mq_221 : zz_Mt := (yX8_room, cX8_room, 8, (some .int), 0, 0)
abbrev mq_222 : zz_Mt := (yX8_right, cX8_right, 7, (some .int), 0, 0)
abbrev mq_223 : zz_Mt := (yX8_clash, cX8_clash, 8, (some .boolean), 0, 0)
abbrev mq_224 : zz_Mt := (yX8_layClashes, cX8_layClashes, 5, none, 0, 0)
abbrev mq_225 : zz_Mt := (yX8_isApart, cX8_isApart, 6, (some .boolean), 0, 0)
abbrev mq_226 : zz_Mt := (yX8_codes, cX8_codes, 3, (some .int), 0, 0)
abbrev mq_227 : zz_Mt := (yX8_apart, cX8_apart, 6, (some .int), 0, 0)
abbrev mq_228 : zz_Mt := (yX8_stairsOf, cX8_stairsOf, 4, (some .int), 0, 0)
abbrev mq_229 : zz_Mt := (yX8_stairs, cX8_stairs, 6, (some .int), 0, 0)
abbrev mq_230 : zz_Mt := (yX8_doomed, cX8_doomed, 8, (some .int), 0, 0)
abbrev mq_231 : zz_Mt := (yX8_out, cX8_out, 7, (some .int), 0, 0)
abbrev mq_232 : zz_Mt := (yX8_late, cX8_late, 7, (some .int), 0, 0)
abbrev mq_233 : zz_Mt := (yX8_against, cX8_against, 4, (some .int), 0, 0)
abbrev mq_234 : zz_Mt := (yX8_isSo, cX8_isSo, 7, (some .boolean), 0, 0)
abbrev mq_235 : zz_Mt := (yX8_rates, cX8_rates, 6, (some .int), 0, 0)
abbrev mq_236 : zz_Mt := (yX8_kinds, cX8_kinds, 6, (some .int), 0, 0)
abbrev mq_237 : zz_Mt := (yX8_from, cX8_from, 8, (some .int), 0, 0)
abbrev mq_238 : zz_Mt := (yX8_turns, cX8_turns, 4, none, 0, 0)
abbrev mq_239 : zz_Mt := (yX8_winsOnce, cX8_winsOnce, 3, (some .boolean), 0, 0)
abbrev mq_240 : zz_Mt := (yX8_isSafe, cX8_isSafe, 3, (some .boolean), 0, 0)
abbrev mq_241 : zz_Mt := (yX8_winsBy, cX8_winsBy, 5, (some .boolean), 0, 0)
abbrev mq_242 : zz_Mt := (yX8_firstOf, cX8_firstOf, 3, (some .int), 0, 0)
abbrev mq_243 : zz_Mt := (yX8_cat, cX8_cat, 2, (some .int), 0, 0)
abbrev mq_244 : zz_Mt := (yX8_first, cX8_first, 2, (some .int), 0, 0)
abbrev mq_245 : zz_Mt := (yX8_chance, cX8_chance, 11, (some .int), 0, 0)
abbrev mq_246 : zz_Mt := (yX8_waysOf, cX8_waysOf, 8, (some .long), 0, 0)
abbrev mq_247 : zz_Mt := (yX8_odds, cX8_odds, 15, (some .int), 0, 0)
abbrev mq_248 : zz_Mt := (yX8_mid, cX8_mid, 4, (some .int), 0, 0)
abbrev mq_249 : zz_Mt := (yX8_lots, cX8_lots, 7, (some .int), 0, 0)
abbrev mq_250 : zz_Mt := (yX8_asked, cX8_asked, 1, (some .int), 0, 0)
abbrev mq_251 : zz_Mt := (yX8_upper, cX8_upper, 1, (some .long), 0, 0)
abbrev mq_252 : zz_Mt := (yX8_lower, cX8_lower, 1, (some .long), 0, 0)
abbrev mq_253 : zz_Mt := (yX8_thereOf, cX8_thereOf, 4, (some .int), 0, 0)
abbrev mq_254 : zz_Mt := (yX8_ofKind, cX8_ofKind, 5, (some .int), 0, 0)
abbrev mq_255 : zz_Mt := (yX8_count, cX8_count, 2, (some .int), 0, 0)
abbrev mq_256 : zz_Mt := (yX8_finding, cX8_finding, 1, (some .int), 0, 0)
abbrev mq_257 : zz_Mt := (yX8_findings, cX8_findings, 2, (some .int), 0, 0)
abbrev mq_258 : zz_Mt := (yX8_mix, cX8_mix, 3, none, 0, 0)
abbrev mq_259 : zz_Mt := (yX8_digest, cX8_digest, 3, (some .long), 0, 0)
def zz_mt : List zz_Mt := [mq_0, mq_1, mq_2, mq_3, mq_4, mq_5, mq_6, mq_7, mq_8, mq_9, mq_10, mq_11, mq_12, mq_13, mq_14, mq_15, mq_16, mq_17, mq_18, mq_19, mq_20, mq_21, mq_22, mq_23, mq_24, mq_25, mq_26, mq_27, mq_28, mq_29, mq_30, mq_31, mq_32, mq_33, mq_34, mq_35, mq_36, mq_37, mq_38, mq_39, mq_40, mq_41, mq_42, mq_43, mq_44, mq_45, mq_46, mq_47, mq_48, mq_49, mq_50, mq_51, mq_52, mq_53, mq_54, mq_55, mq_56, mq_57, mq_58, mq_59, mq_60, mq_61, mq_62, mq_63, mq_64, mq_65, mq_66, mq_67, mq_68, mq_69, mq_70, mq_71, mq_72, mq_73, mq_74, mq_75, mq_76, mq_77, mq_78, mq_79, mq_80, mq_81, mq_82, mq_83, mq_84, mq_85, mq_86, mq_87, mq_88, mq_89, mq_90, mq_91, mq_92, mq_93, mq_94, mq_95, mq_96, mq_97, mq_98, mq_99, mq_100, mq_101, mq_102, mq_103, mq_104, mq_105, mq_106, mq_107, mq_108, mq_109, mq_110, mq_111, mq_112, mq_113, mq_114, mq_115, mq_116, mq_117, mq_118, mq_119, mq_120, mq_121, mq_122, mq_123, mq_124, mq_125, mq_126, mq_127, mq_128, mq_129, mq_130, mq_131, mq_132, mq_133, mq_134, mq_135, mq_136, mq_137, mq_138, mq_139, mq_140, mq_141, mq_142, mq_143, mq_144, mq_145, mq_146, mq_147, mq_148, mq_149, mq_150, mq_151, mq_152, mq_153, mq_154, mq_155, mq_156, mq_157, mq_158, mq_159, mq_160, mq_161, mq_162, mq_163, mq_164, mq_165, mq_166, mq_167, mq_168, mq_169, mq_170, mq_171, mq_172, mq_173, mq_174, mq_175, mq_176, mq_177, mq_178, mq_179, mq_180, mq_181, mq_182, mq_183, mq_184, mq_185, mq_186, mq_187, mq_188, mq_189, mq_190, mq_191, mq_192, mq_193, mq_194, mq_195, mq_196, mq_197, mq_198, mq_199, mq_200, mq_201, mq_202, mq_203, mq_204, mq_205, mq_206, mq_207, mq_208, mq_209, mq_210, mq_211, mq_212, mq_213, mq_214, mq_215, mq_216, mq_217, mq_218, mq_219, mq_220, mq_221, mq_222, mq_223, mq_224, mq_225, mq_226, mq_227, mq_228, mq_229, mq_230, mq_231, mq_232, mq_233, mq_234, mq_235, mq_236, mq_237, mq_238, mq_239, mq_240, mq_241, mq_242, mq_243, mq_244, mq_245, mq_246, mq_247, mq_248, mq_249, mq_250, mq_251, mq_252, mq_253, mq_254, mq_255, mq_256, mq_257, mq_258, mq_259]
set_option maxRecDepth 20000 in
theorem mk_0 : zz_mt[0]? = some mq_0 := rfl
theorem ck_0 : zz_ck mq_0 0 := ⟨⟨by decide, by decide, by decide +kernel⟩, by decide, wd_264⟩
set_option maxRecDepth 20000 in
theorem mk_1 : zz_mt[1]? = some mq_1 := rfl
theorem ck_1 : zz_ck mq_1 0 := ⟨⟨by decide, by decide, by decide +kernel⟩, by decide, wd_203⟩
set_option maxRecDepth 20000 in
theorem mk_2 : zz_mt[2]? = some mq_2 := rfl
theorem ck_2 : zz_ck mq_2 0 := ⟨⟨by decide, by decide, by decide +kernel⟩, by decide, wd_252⟩
set_option maxRecDepth 20000 in
theorem mk_3 : zz_mt[3]? = some mq_3 := rfl
theorem ck_3 : zz_ck mq_3 0 := ⟨⟨by decide, by decide, by decide +kernel⟩, by decide, wd_148⟩
set_option maxRecDepth 20000 in
theorem mk_4 : zz_mt[4]? = some mq_4 := rfl
theorem ck_4 : zz_ck mq_4 0 := ⟨⟨by decide, by decide, by decide +kernel⟩, by decide, wd_218⟩
set_option maxRecDepth 20000 in
theorem mk_5 : zz_mt[5]? = some mq_5 := rfl
theorem ck_5 : zz_ck mq_5 0 := ⟨⟨by decide, by decide, by decide +kernel⟩, by decide, wd_110⟩
set_option maxRecDepth 20000 in
theorem mk_6 : zz_mt[6]? = some mq_6 := rfl
theorem ck_6 : zz_ck mq_6 1 := ⟨⟨by decide, by decide, by decide +kernel⟩, by decide, wd_96⟩
set_option maxRecDepth 20000 in
theorem mk_7 : zz_mt[7]? = some mq_7 := rfl
theorem ck_7 : zz_ck mq_7 0 := ⟨⟨by decide, by decide, by decide +kernel⟩, by decide, wd_86⟩
set_option maxRecDepth 20000 in
theorem mk_8 : zz_mt[8]? = some mq_8 := rfl
theorem ck_8 : zz_ck mq_8 0 := ⟨⟨by decide, by decide, by decide +kernel⟩, by decide, wd_978⟩
set_option maxRecDepth 20000 in
theorem mk_9 : zz_mt[9]? = some mq_9 := rfl
theorem ck_9 : zz_ck mq_9 1 := ⟨⟨by decide, by decide, by decide +kernel⟩, by decide, wd_546⟩
set_option maxRecDepth 20000 in
theorem mk_10 : zz_mt[10]? = some mq_10 := rfl
theorem ck_10 : zz_ck mq_10 1 := ⟨⟨by decide, by decide, by decide +kernel⟩, by decide, wd_702⟩
set_option maxRecDepth 20000 in
theorem mk_11 : zz_mt[11]? = some mq_11 := rfl
theorem ck_11 : zz_ck mq_11 1 := ⟨⟨by decide, by decide, by decide +kernel⟩, by decide, wd_322⟩
set_option maxRecDepth 20000 in
theorem mk_12 : zz_mt[12]? = some mq_12 := rfl
theorem ck_12 : zz_ck mq_12 1 := ⟨⟨by decide, by decide, by decide +kernel⟩, by decide, wd_347⟩
set_option maxRecDepth 20000 in
theorem mk_13 : zz_mt[13]? = some mq_13 := rfl
theorem ck_13 : zz_ck mq_13 2 := ⟨⟨by decide, by decide, by decide +kernel⟩, by decide, wd_351⟩
set_option maxRecDepth 20000 in
theorem mk_14 : zz_mt[14]? = some mq_14 := rfl
theorem ck_14 : zz_ck mq_14 3 := ⟨⟨by decide, by decide, by decide +kernel⟩, by decide, wd_380⟩
set_option maxRecDepth 20000 in
theorem mk_15 : zz_mt[15]? = some mq_15 := rfl
theorem ck_15 : zz_ck mq_15 1 := ⟨⟨by decide, by decide, by decide +kernel⟩, by decide, wd_397⟩
set_option maxRecDepth 20000 in
theorem mk_16 : zz_mt[16]? = some mq_16 := rfl
theorem ck_16 : zz_ck mq_16 2 := ⟨⟨by decide, by decide, by decide +kernel⟩, by decide, wd_364⟩
set_option maxRecDepth 20000 in
theorem mk_17 : zz_mt[17]? = some mq_17 := rfl
theorem ck_17 : zz_ck mq_17 3 := ⟨⟨by decide, by decide, by decide +kernel⟩, by decide, wd_355⟩
set_option maxRecDepth 20000 in
theorem mk_18 : zz_mt[18]? = some mq_18 := rfl
theorem ck_18 : zz_ck mq_18 3 := ⟨⟨by decide, by decide, by decide +kernel⟩, by decide, wd_330⟩
set_option maxRecDepth 20000 in
theorem mk_19 : zz_mt[19]? = some mq_19 := rfl
theorem ck_19 : zz_ck mq_19 1 := ⟨⟨by decide, by decide, by decide +kernel⟩, by decide, wd_372⟩
set_option maxRecDepth 20000 in
theorem mk_20 : zz_mt[20]? = some mq_20 := rfl
theorem ck_20 : zz_ck mq_20 5 := ⟨⟨by decide, by decide, by decide +kernel⟩, by decide, wd_385⟩
set_option maxRecDepth 20000 in
theorem mk_21 : zz_mt[21]? = some mq_21 := rfl
theorem ck_21 : zz_ck mq_21 1 := ⟨⟨by decide, by decide, by decide +kernel⟩, by decide, wd_401⟩
set_option maxRecDepth 20000 in
theorem mk_22 : zz_mt[22]? = some mq_22 := rfl
theorem ck_22 : zz_ck mq_22 0 := ⟨⟨by decide, by decide, by decide +kernel⟩, by decide, wd_950⟩
set_option maxRecDepth 20000 in
theorem mk_23 : zz_mt[23]? = some mq_23 := rfl
theorem ck_23 : zz_ck mq_23 1 := ⟨⟨by decide, by decide, by decide +kernel⟩, by decide, wd_972⟩
set_option maxRecDepth 20000 in
theorem mk_24 : zz_mt[24]? = some mq_24 := rfl
theorem ck_24 : zz_ck mq_24 2 := ⟨⟨by decide, by decide, by decide +kernel⟩, by decide, wd_419⟩
set_option maxRecDepth 20000 in
theorem mk_25 : zz_mt[25]? = some mq_25 := rfl
theorem ck_25 : zz_ck mq_25 2 := ⟨⟨by decide, by decide, by decide +kernel⟩, by decide, wd_424⟩
set_option maxRecDepth 20000 in
theorem mk_26 : zz_mt[26]? = some mq_26 := rfl
theorem ck_26 : zz_ck mq_26 2 := ⟨⟨by decide, by decide, by decide +kernel⟩, by decide, wd_429⟩
set_option maxRecDepth 20000 in
theorem mk_27 : zz_mt[27]? = some mq_27 := rfl
theorem ck_27 : zz_ck mq_27 3 := ⟨⟨by decide, by decide, by decide +kernel⟩, by decide, wd_438⟩
set_option maxRecDepth 20000 in
theorem mk_28 : zz_mt[28]? = some mq_28 := rfl
theorem ck_28 : zz_ck mq_28 3 := ⟨⟨by decide, by decide, by decide +kernel⟩, by decide, wd_434⟩
set_option maxRecDepth 20000 in
theorem mk_29 : zz_mt[29]? = some mq_29 := rfl
theorem ck_29 : zz_ck mq_29 1 := ⟨⟨by decide, by decide, by decide +kernel⟩, by decide, wd_441⟩
set_option maxRecDepth 20000 in
theorem mk_30 : zz_mt[30]? = some mq_30 := rfl
theorem ck_30 : zz_ck mq_30 1 := ⟨⟨by decide, by decide, by decide +kernel⟩, by decide, wd_451⟩
set_option maxRecDepth 20000 in
theorem mk_31 : zz_mt[31]? = some mq_31 := rfl
theorem ck_31 : zz_ck mq_31 1 := ⟨⟨by decide, by decide, by decide +kernel⟩, by decide, wd_479⟩
set_option maxRecDepth 20000 in
theorem mk_32 : zz_mt[32]? = some mq_32 := rfl
theorem ck_32 : zz_ck mq_32 2 := ⟨⟨by decide, by decide, by decide +kernel⟩, by decide, wd_661⟩
set_option maxRecDepth 20000 in
theorem mk_33 : zz_mt[33]? = some mq_33 := rfl
theorem ck_33 : zz_ck mq_33 2 := ⟨⟨by decide, by decide, by decide +kernel⟩, by decide, wd_529⟩
set_option maxRecDepth 20000 in
theorem mk_34 : zz_mt[34]? = some mq_34 := rfl
theorem ck_34 : zz_ck mq_34 1 := ⟨⟨by decide, by decide, by decide +kernel⟩, by decide, wd_500⟩
set_option maxRecDepth 20000 in
theorem mk_35 : zz_mt[35]? = some mq_35 := rfl
theorem ck_35 : zz_ck mq_35 1 := ⟨⟨by decide, by decide, by decide +kernel⟩, by decide, wd_504⟩
set_option maxRecDepth 20000 in
theorem mk_36 : zz_mt[36]? = some mq_36 := rfl
theorem ck_36 : zz_ck mq_36 1 := ⟨⟨by decide, by decide, by decide +kernel⟩, by decide, wd_508⟩
set_option maxRecDepth 20000 in
theorem mk_37 : zz_mt[37]? = some mq_37 := rfl
theorem ck_37 : zz_ck mq_37 1 := ⟨⟨by decide, by decide, by decide +kernel⟩, by decide, wd_512⟩
set_option maxRecDepth 20000 in
theorem mk_38 : zz_mt[38]? = some mq_38 := rfl
theorem ck_38 : zz_ck mq_38 1 := ⟨⟨by decide, by decide, by decide +kernel⟩, by decide, wd_521⟩
set_option maxRecDepth 20000 in
theorem mk_39 : zz_mt[39]? = some mq_39 := rfl
theorem ck_39 : zz_ck mq_39 2 := ⟨⟨by decide, by decide, by decide +kernel⟩, by decide, wd_496⟩
set_option maxRecDepth 20000 in
theorem mk_40 : zz_mt[40]? = some mq_40 := rfl
theorem ck_40 : zz_ck mq_40 1 := ⟨⟨by decide, by decide, by decide +kernel⟩, by decide, wd_945⟩
set_option maxRecDepth 20000 in
theorem mk_41 : zz_mt[41]? = some mq_41 := rfl
theorem ck_41 : zz_ck mq_41 1 := ⟨⟨by decide, by decide, by decide +kernel⟩, by decide, wd_471⟩
set_option maxRecDepth 20000 in
theorem mk_42 : zz_mt[42]? = some mq_42 := rfl
theorem ck_42 : zz_ck mq_42 1 := ⟨⟨by decide, by decide, by decide +kernel⟩, by decide, wd_467⟩
set_option maxRecDepth 20000 in
theorem mk_43 : zz_mt[43]? = some mq_43 := rfl
theorem ck_43 : zz_ck mq_43 1 := ⟨⟨by decide, by decide, by decide +kernel⟩, by decide, wd_653⟩
set_option maxRecDepth 20000 in
theorem mk_44 : zz_mt[44]? = some mq_44 := rfl
theorem ck_44 : zz_ck mq_44 3 := ⟨⟨by decide, by decide, by decide +kernel⟩, by decide, wd_475⟩
set_option maxRecDepth 20000 in
theorem mk_45 : zz_mt[45]? = some mq_45 := rfl
theorem ck_45 : zz_ck mq_45 3 := ⟨⟨by decide, by decide, by decide +kernel⟩, by decide, wd_557⟩
set_option maxRecDepth 20000 in
theorem mk_46 : zz_mt[46]? = some mq_46 := rfl
theorem ck_46 : zz_ck mq_46 4 := ⟨⟨by decide, by decide, by decide +kernel⟩, by decide, wd_665⟩
set_option maxRecDepth 20000 in
theorem mk_47 : zz_mt[47]? = some mq_47 := rfl
theorem ck_47 : zz_ck mq_47 1 := ⟨⟨by decide, by decide, by decide +kernel⟩, by decide, wd_535⟩
set_option maxRecDepth 20000 in
theorem mk_48 : zz_mt[48]? = some mq_48 := rfl
theorem ck_48 : zz_ck mq_48 1 := ⟨⟨by decide, by decide, by decide +kernel⟩, by decide, wd_539⟩
set_option maxRecDepth 20000 in
theorem mk_49 : zz_mt[49]? = some mq_49 := rfl
theorem ck_49 : zz_ck mq_49 1 := ⟨⟨by decide, by decide, by decide +kernel⟩, by decide, wd_580⟩
set_option maxRecDepth 20000 in
theorem mk_50 : zz_mt[50]? = some mq_50 := rfl
theorem ck_50 : zz_ck mq_50 1 := ⟨⟨by decide, by decide, by decide +kernel⟩, by decide, wd_543⟩
set_option maxRecDepth 20000 in
theorem mk_51 : zz_mt[51]? = some mq_51 := rfl
theorem ck_51 : zz_ck mq_51 1 := ⟨⟨by decide, by decide, by decide +kernel⟩, by decide, wd_593⟩
set_option maxRecDepth 20000 in
theorem mk_52 : zz_mt[52]? = some mq_52 := rfl
theorem ck_52 : zz_ck mq_52 0 := ⟨⟨by decide, by decide, by decide +kernel⟩, by decide, wd_597⟩
set_option maxRecDepth 20000 in
theorem mk_53 : zz_mt[53]? = some mq_53 := rfl
theorem ck_53 : zz_ck mq_53 2 := ⟨⟨by decide, by decide, by decide +kernel⟩, by decide, wd_615⟩
set_option maxRecDepth 20000 in
theorem mk_54 : zz_mt[54]? = some mq_54 := rfl
theorem ck_54 : zz_ck mq_54 1 := ⟨⟨by decide, by decide, by decide +kernel⟩, by decide, wd_918⟩
set_option maxRecDepth 20000 in
theorem mk_55 : zz_mt[55]? = some mq_55 := rfl
theorem ck_55 : zz_ck mq_55 1 := ⟨⟨by decide, by decide, by decide +kernel⟩, by decide, wd_459⟩
set_option maxRecDepth 20000 in
theorem mk_56 : zz_mt[56]? = some mq_56 := rfl
theorem ck_56 : zz_ck mq_56 0 := ⟨⟨by decide, by decide, by decide +kernel⟩, by decide, wd_463⟩
set_option maxRecDepth 20000 in
theorem mk_57 : zz_mt[57]? = some mq_57 := rfl
theorem ck_57 : zz_ck mq_57 1 := ⟨⟨by decide, by decide, by decide +kernel⟩, by decide, wd_455⟩
set_option maxRecDepth 20000 in
theorem mk_58 : zz_mt[58]? = some mq_58 := rfl
theorem ck_58 : zz_ck mq_58 1 := ⟨⟨by decide, by decide, by decide +kernel⟩, by decide, wd_637⟩
set_option maxRecDepth 20000 in
theorem mk_59 : zz_mt[59]? = some mq_59 := rfl
theorem ck_59 : zz_ck mq_59 0 := ⟨⟨by decide, by decide, by decide +kernel⟩, by decide, wd_954⟩
set_option maxRecDepth 20000 in
theorem mk_60 : zz_mt[60]? = some mq_60 := rfl
theorem ck_60 : zz_ck mq_60 1 := ⟨⟨by decide, by decide, by decide +kernel⟩, by decide, wd_629⟩
set_option maxRecDepth 20000 in
theorem mk_61 : zz_mt[61]? = some mq_61 := rfl
theorem ck_61 : zz_ck mq_61 1 := ⟨⟨by decide, by decide, by decide +kernel⟩, by decide, wd_641⟩
set_option maxRecDepth 20000 in
theorem mk_62 : zz_mt[62]? = some mq_62 := rfl
theorem ck_62 : zz_ck mq_62 3 := ⟨⟨by decide, by decide, by decide +kernel⟩, by decide, wd_553⟩
set_option maxRecDepth 20000 in
theorem mk_63 : zz_mt[63]? = some mq_63 := rfl
theorem ck_63 : zz_ck mq_63 2 := ⟨⟨by decide, by decide, by decide +kernel⟩, by decide, wd_572⟩
set_option maxRecDepth 20000 in
theorem mk_64 : zz_mt[64]? = some mq_64 := rfl
theorem ck_64 : zz_ck mq_64 1 := ⟨⟨by decide, by decide, by decide +kernel⟩, by decide, wd_576⟩
set_option maxRecDepth 20000 in
theorem mk_65 : zz_mt[65]? = some mq_65 := rfl
theorem ck_65 : zz_ck mq_65 0 := ⟨⟨by decide, by decide, by decide +kernel⟩, by decide, wd_683⟩
set_option maxRecDepth 20000 in
theorem mk_66 : zz_mt[66]? = some mq_66 := rfl
theorem ck_66 : zz_ck mq_66 0 := ⟨⟨by decide, by decide, by decide +kernel⟩, by decide, wd_699⟩
set_option maxRecDepth 20000 in
theorem mk_67 : zz_mt[67]? = some mq_67 := rfl
theorem ck_67 : zz_ck mq_67 1 := ⟨⟨by decide, by decide, by decide +kernel⟩, by decide, wd_568⟩
set_option maxRecDepth 20000 in
theorem mk_68 : zz_mt[68]? = some mq_68 := rfl
theorem ck_68 : zz_ck mq_68 0 := ⟨⟨by decide, by decide, by decide +kernel⟩, by decide, wd_605⟩
set_option maxRecDepth 20000 in
theorem mk_69 : zz_mt[69]? = some mq_69 := rfl
theorem ck_69 : zz_ck mq_69 0 := ⟨⟨by decide, by decide, by decide +kernel⟩, by decide, wd_675⟩
set_option maxRecDepth 20000 in
theorem mk_70 : zz_mt[70]? = some mq_70 := rfl
theorem ck_70 : zz_ck mq_70 0 := ⟨⟨by decide, by decide, by decide +kernel⟩, by decide, wd_687⟩
set_option maxRecDepth 20000 in
theorem mk_71 : zz_mt[71]? = some mq_71 := rfl
theorem ck_71 : zz_ck mq_71 2 := ⟨⟨by decide, by decide, by decide +kernel⟩, by decide, wd_868⟩
set_option maxRecDepth 20000 in
theorem mk_72 : zz_mt[72]? = some mq_72 := rfl
theorem ck_72 : zz_ck mq_72 2 := ⟨⟨by decide, by decide, by decide +kernel⟩, by decide, wd_726⟩
set_option maxRecDepth 20000 in
theorem mk_73 : zz_mt[73]? = some mq_73 := rfl
theorem ck_73 : zz_ck mq_73 3 := ⟨⟨by decide, by decide, by decide +kernel⟩, by decide, wd_733⟩
set_option maxRecDepth 20000 in
theorem mk_74 : zz_mt[74]? = some mq_74 := rfl
theorem ck_74 : zz_ck mq_74 3 := ⟨⟨by decide, by decide, by decide +kernel⟩, by decide, wd_741⟩
set_option maxRecDepth 20000 in
theorem mk_75 : zz_mt[75]? = some mq_75 := rfl
theorem ck_75 : zz_ck mq_75 3 := ⟨⟨by decide, by decide, by decide +kernel⟩, by decide, wd_764⟩
set_option maxRecDepth 20000 in
theorem mk_76 : zz_mt[76]? = some mq_76 := rfl
theorem ck_76 : zz_ck mq_76 0 := ⟨⟨by decide, by decide, by decide +kernel⟩, by decide, wd_752⟩
set_option maxRecDepth 20000 in
theorem mk_77 : zz_mt[77]? = some mq_77 := rfl
theorem ck_77 : zz_ck mq_77 0 := ⟨⟨by decide, by decide, by decide +kernel⟩, by decide, wd_799⟩
set_option maxRecDepth 20000 in
theorem mk_78 : zz_mt[78]? = some mq_78 := rfl
theorem ck_78 : zz_ck mq_78 0 := ⟨⟨by decide, by decide, by decide +kernel⟩, by decide, wd_808⟩
set_option maxRecDepth 20000 in
theorem mk_79 : zz_mt[79]? = some mq_79 := rfl
theorem ck_79 : zz_ck mq_79 1 := ⟨⟨by decide, by decide, by decide +kernel⟩, by decide, wd_813⟩
set_option maxRecDepth 20000 in
theorem mk_80 : zz_mt[80]? = some mq_80 := rfl
theorem ck_80 : zz_ck mq_80 1 := ⟨⟨by decide, by decide, by decide +kernel⟩, by decide, wd_747⟩
set_option maxRecDepth 20000 in
theorem mk_81 : zz_mt[81]? = some mq_81 := rfl
theorem ck_81 : zz_ck mq_81 2 := ⟨⟨by decide, by decide, by decide +kernel⟩, by decide, wd_756⟩
set_option maxRecDepth 20000 in
theorem mk_82 : zz_mt[82]? = some mq_82 := rfl
theorem ck_82 : zz_ck mq_82 2 := ⟨⟨by decide, by decide, by decide +kernel⟩, by decide, wd_760⟩
set_option maxRecDepth 20000 in
theorem mk_83 : zz_mt[83]? = some mq_83 := rfl
theorem ck_83 : zz_ck mq_83 2 := ⟨⟨by decide, by decide, by decide +kernel⟩, by decide, wd_768⟩
set_option maxRecDepth 20000 in
theorem mk_84 : zz_mt[84]? = some mq_84 := rfl
theorem ck_84 : zz_ck mq_84 1 := ⟨⟨by decide, by decide, by decide +kernel⟩, by decide, wd_775⟩
set_option maxRecDepth 20000 in
theorem mk_85 : zz_mt[85]? = some mq_85 := rfl
theorem ck_85 : zz_ck mq_85 0 := ⟨⟨by decide, by decide, by decide +kernel⟩, by decide, wd_779⟩
set_option maxRecDepth 20000 in
theorem mk_86 : zz_mt[86]? = some mq_86 := rfl
theorem ck_86 : zz_ck mq_86 0 := ⟨⟨by decide, by decide, by decide +kernel⟩, by decide, wd_791⟩
set_option maxRecDepth 20000 in
theorem mk_87 : zz_mt[87]? = some mq_87 := rfl
theorem ck_87 : zz_ck mq_87 0 := ⟨⟨by decide, by decide, by decide +kernel⟩, by decide, wd_787⟩
set_option maxRecDepth 20000 in
theorem mk_88 : zz_mt[88]? = some mq_88 := rfl
theorem ck_88 : zz_ck mq_88 2 := ⟨⟨by decide, by decide, by decide +kernel⟩, by decide, wd_854⟩
set_option maxRecDepth 20000 in
theorem mk_89 : zz_mt[89]? = some mq_89 := rfl
theorem ck_89 : zz_ck mq_89 2 := ⟨⟨by decide, by decide, by decide +kernel⟩, by decide, wd_878⟩
set_option maxRecDepth 20000 in
theorem mk_90 : zz_mt[90]? = some mq_90 := rfl
theorem ck_90 : zz_ck mq_90 1 := ⟨⟨by decide, by decide, by decide +kernel⟩, by decide, wd_859⟩
set_option maxRecDepth 20000 in
theorem mk_91 : zz_mt[91]? = some mq_91 := rfl
theorem ck_91 : zz_ck mq_91 2 := ⟨⟨by decide, by decide, by decide +kernel⟩, by decide, wd_864⟩
set_option maxRecDepth 20000 in
theorem mk_92 : zz_mt[92]? = some mq_92 := rfl
theorem ck_92 : zz_ck mq_92 5 := ⟨⟨by decide, by decide, by decide +kernel⟩, by decide, wd_889⟩
set_option maxRecDepth 20000 in
theorem mk_93 : zz_mt[93]? = some mq_93 := rfl
theorem ck_93 : zz_ck mq_93 3 := ⟨⟨by decide, by decide, by decide +kernel⟩, by decide, wd_893⟩
set_option maxRecDepth 20000 in
theorem mk_94 : zz_mt[94]? = some mq_94 := rfl
theorem ck_94 : zz_ck mq_94 2 := ⟨⟨by decide, by decide, by decide +kernel⟩, by decide, wd_901⟩
set_option maxRecDepth 20000 in
theorem mk_95 : zz_mt[95]? = some mq_95 := rfl
theorem ck_95 : zz_ck mq_95 2 := ⟨⟨by decide, by decide, by decide +kernel⟩, by decide, wd_318⟩
set_option maxRecDepth 20000 in
theorem mk_96 : zz_mt[96]? = some mq_96 := rfl
theorem ck_96 : zz_ck mq_96 3 := ⟨⟨by decide, by decide, by decide +kernel⟩, by decide, wd_335⟩
set_option maxRecDepth 20000 in
theorem mk_97 : zz_mt[97]? = some mq_97 := rfl
theorem ck_97 : zz_ck mq_97 2 := ⟨⟨by decide, by decide, by decide +kernel⟩, by decide, wd_360⟩
set_option maxRecDepth 20000 in
theorem mk_98 : zz_mt[98]? = some mq_98 := rfl
theorem ck_98 : zz_ck mq_98 1 := ⟨⟨by decide, by decide, by decide +kernel⟩, by decide, wd_368⟩
set_option maxRecDepth 20000 in
theorem mk_99 : zz_mt[99]? = some mq_99 := rfl
theorem ck_99 : zz_ck mq_99 5 := ⟨⟨by decide, by decide, by decide +kernel⟩, by decide, wd_376⟩
set_option maxRecDepth 20000 in
theorem mk_100 : zz_mt[100]? = some mq_100 := rfl
theorem ck_100 : zz_ck mq_100 1 := ⟨⟨by decide, by decide, by decide +kernel⟩, by decide, wd_393⟩
set_option maxRecDepth 20000 in
theorem mk_101 : zz_mt[101]? = some mq_101 := rfl
theorem ck_101 : zz_ck mq_101 2 := ⟨⟨by decide, by decide, by decide +kernel⟩, by decide, wd_407⟩
set_option maxRecDepth 20000 in
theorem mk_102 : zz_mt[102]? = some mq_102 := rfl
theorem ck_102 : zz_ck mq_102 3 := ⟨⟨by decide, by decide, by decide +kernel⟩, by decide, wd_411⟩
set_option maxRecDepth 20000 in
theorem mk_103 : zz_mt[103]? = some mq_103 := rfl
theorem ck_103 : zz_ck mq_103 1 := ⟨⟨by decide, by decide, by decide +kernel⟩, by decide, wd_415⟩
set_option maxRecDepth 20000 in
theorem mk_104 : zz_mt[104]? = some mq_104 := rfl
theorem ck_104 : zz_ck mq_104 1 := ⟨⟨by decide, by decide, by decide +kernel⟩, by decide, wd_447⟩
set_option maxRecDepth 20000 in
theorem mk_105 : zz_mt[105]? = some mq_105 := rfl
theorem ck_105 : zz_ck mq_105 2 := ⟨⟨by decide, by decide, by decide +kernel⟩, by decide, wd_491⟩
set_option maxRecDepth 20000 in
theorem mk_106 : zz_mt[106]? = some mq_106 := rfl
theorem ck_106 : zz_ck mq_106 2 := ⟨⟨by decide, by decide, by decide +kernel⟩, by decide, wd_525⟩
set_option maxRecDepth 20000 in
theorem mk_107 : zz_mt[107]? = some mq_107 := rfl
theorem ck_107 : zz_ck mq_107 1 := ⟨⟨by decide, by decide, by decide +kernel⟩, by decide, wd_584⟩
set_option maxRecDepth 20000 in
theorem mk_108 : zz_mt[108]? = some mq_108 := rfl
theorem ck_108 : zz_ck mq_108 0 := ⟨⟨by decide, by decide, by decide +kernel⟩, by decide, wd_589⟩
set_option maxRecDepth 20000 in
theorem mk_109 : zz_mt[109]? = some mq_109 := rfl
theorem ck_109 : zz_ck mq_109 2 := ⟨⟨by decide, by decide, by decide +kernel⟩, by decide, wd_610⟩
set_option maxRecDepth 20000 in
theorem mk_110 : zz_mt[110]? = some mq_110 := rfl
theorem ck_110 : zz_ck mq_110 1 := ⟨⟨by decide, by decide, by decide +kernel⟩, by decide, wd_620⟩
set_option maxRecDepth 20000 in
theorem mk_111 : zz_mt[111]? = some mq_111 := rfl
theorem ck_111 : zz_ck mq_111 1 := ⟨⟨by decide, by decide, by decide +kernel⟩, by decide, wd_625⟩
set_option maxRecDepth 20000 in
theorem mk_112 : zz_mt[112]? = some mq_112 := rfl
theorem ck_112 : zz_ck mq_112 1 := ⟨⟨by decide, by decide, by decide +kernel⟩, by decide, wd_633⟩
set_option maxRecDepth 20000 in
theorem mk_113 : zz_mt[113]? = some mq_113 := rfl
theorem ck_113 : zz_ck mq_113 2 := ⟨⟨by decide, by decide, by decide +kernel⟩, by decide, wd_646⟩
set_option maxRecDepth 20000 in
theorem mk_114 : zz_mt[114]? = some mq_114 := rfl
theorem ck_114 : zz_ck mq_114 2 := ⟨⟨by decide, by decide, by decide +kernel⟩, by decide, wd_657⟩
set_option maxRecDepth 20000 in
theorem mk_115 : zz_mt[115]? = some mq_115 := rfl
theorem ck_115 : zz_ck mq_115 1 := ⟨⟨by decide, by decide, by decide +kernel⟩, by decide, wd_671⟩
set_option maxRecDepth 20000 in
theorem mk_116 : zz_mt[116]? = some mq_116 := rfl
theorem ck_116 : zz_ck mq_116 0 := ⟨⟨by decide, by decide, by decide +kernel⟩, by decide, wd_679⟩
set_option maxRecDepth 20000 in
theorem mk_117 : zz_mt[117]? = some mq_117 := rfl
theorem ck_117 : zz_ck mq_117 3 := ⟨⟨by decide, by decide, by decide +kernel⟩, by decide, wd_691⟩
set_option maxRecDepth 20000 in
theorem mk_118 : zz_mt[118]? = some mq_118 := rfl
theorem ck_118 : zz_ck mq_118 1 := ⟨⟨by decide, by decide, by decide +kernel⟩, by decide, wd_695⟩
set_option maxRecDepth 20000 in
theorem mk_119 : zz_mt[119]? = some mq_119 := rfl
theorem ck_119 : zz_ck mq_119 2 := ⟨⟨by decide, by decide, by decide +kernel⟩, by decide, wd_709⟩
set_option maxRecDepth 20000 in
theorem mk_120 : zz_mt[120]? = some mq_120 := rfl
theorem ck_120 : zz_ck mq_120 3 := ⟨⟨by decide, by decide, by decide +kernel⟩, by decide, wd_715⟩
set_option maxRecDepth 20000 in
theorem mk_121 : zz_mt[121]? = some mq_121 := rfl
theorem ck_121 : zz_ck mq_121 2 := ⟨⟨by decide, by decide, by decide +kernel⟩, by decide, wd_722⟩
set_option maxRecDepth 20000 in
theorem mk_122 : zz_mt[122]? = some mq_122 := rfl
theorem ck_122 : zz_ck mq_122 1 := ⟨⟨by decide, by decide, by decide +kernel⟩, by decide, wd_783⟩
set_option maxRecDepth 20000 in
theorem mk_123 : zz_mt[123]? = some mq_123 := rfl
theorem ck_123 : zz_ck mq_123 1 := ⟨⟨by decide, by decide, by decide +kernel⟩, by decide, wd_795⟩
set_option maxRecDepth 20000 in
theorem mk_124 : zz_mt[124]? = some mq_124 := rfl
theorem ck_124 : zz_ck mq_124 1 := ⟨⟨by decide, by decide, by decide +kernel⟩, by decide, wd_804⟩
set_option maxRecDepth 20000 in
theorem mk_125 : zz_mt[125]? = some mq_125 := rfl
theorem ck_125 : zz_ck mq_125 1 := ⟨⟨by decide, by decide, by decide +kernel⟩, by decide, wd_818⟩
set_option maxRecDepth 20000 in
theorem mk_126 : zz_mt[126]? = some mq_126 := rfl
theorem ck_126 : zz_ck mq_126 2 := ⟨⟨by decide, by decide, by decide +kernel⟩, by decide, wd_827⟩
set_option maxRecDepth 20000 in
theorem mk_127 : zz_mt[127]? = some mq_127 := rfl
theorem ck_127 : zz_ck mq_127 2 := ⟨⟨by decide, by decide, by decide +kernel⟩, by decide, wd_841⟩
set_option maxRecDepth 20000 in
theorem mk_128 : zz_mt[128]? = some mq_128 := rfl
theorem ck_128 : zz_ck mq_128 2 := ⟨⟨by decide, by decide, by decide +kernel⟩, by decide, wd_846⟩
set_option maxRecDepth 20000 in
theorem mk_129 : zz_mt[129]? = some mq_129 := rfl
theorem ck_129 : zz_ck mq_129 1 := ⟨⟨by decide, by decide, by decide +kernel⟩, by decide, wd_850⟩
set_option maxRecDepth 20000 in
theorem mk_130 : zz_mt[130]? = some mq_130 := rfl
theorem ck_130 : zz_ck mq_130 1 := ⟨⟨by decide, by decide, by decide +kernel⟩, by decide, wd_874⟩
set_option maxRecDepth 20000 in
theorem mk_131 : zz_mt[131]? = some mq_131 := rfl
theorem ck_131 : zz_ck mq_131 4 := ⟨⟨by decide, by decide, by decide +kernel⟩, by decide, wd_882⟩
set_option maxRecDepth 20000 in
theorem mk_132 : zz_mt[132]? = some mq_132 := rfl
theorem ck_132 : zz_ck mq_132 3 := ⟨⟨by decide, by decide, by decide +kernel⟩, by decide, wd_905⟩
set_option maxRecDepth 20000 in
theorem mk_133 : zz_mt[133]? = some mq_133 := rfl
theorem ck_133 : zz_ck mq_133 2 := ⟨⟨by decide, by decide, by decide +kernel⟩, by decide, wd_911⟩
set_option maxRecDepth 20000 in
theorem mk_134 : zz_mt[134]? = some mq_134 := rfl
theorem ck_134 : zz_ck mq_134 0 := ⟨⟨by decide, by decide, by decide +kernel⟩, by decide, wd_925⟩
set_option maxRecDepth 20000 in
theorem mk_135 : zz_mt[135]? = some mq_135 := rfl
theorem ck_135 : zz_ck mq_135 0 := ⟨⟨by decide, by decide, by decide +kernel⟩, by decide, wd_929⟩
set_option maxRecDepth 20000 in
theorem mk_136 : zz_mt[136]? = some mq_136 := rfl
theorem ck_136 : zz_ck mq_136 0 := ⟨⟨by decide, by decide, by decide +kernel⟩, by decide, wd_933⟩
set_option maxRecDepth 20000 in
theorem mk_137 : zz_mt[137]? = some mq_137 := rfl
theorem ck_137 : zz_ck mq_137 1 := ⟨⟨by decide, by decide, by decide +kernel⟩, by decide, wd_937⟩
set_option maxRecDepth 20000 in
theorem mk_138 : zz_mt[138]? = some mq_138 := rfl
theorem ck_138 : zz_ck mq_138 0 := ⟨⟨by decide, by decide, by decide +kernel⟩, by decide, wd_958⟩
set_option maxRecDepth 20000 in
theorem mk_139 : zz_mt[139]? = some mq_139 := rfl
theorem ck_139 : zz_ck mq_139 1 := ⟨⟨by decide, by decide, by decide +kernel⟩, by decide, wd_962⟩
set_option maxRecDepth 20000 in
theorem mk_140 : zz_mt[140]? = some mq_140 := rfl
theorem ck_140 : zz_ck mq_140 0 := ⟨⟨by decide, by decide, by decide +kernel⟩, by decide, wd_966⟩
set_option maxRecDepth 20000 in
theorem mk_141 : zz_mt[141]? = some mq_141 := rfl
theorem ck_141 : zz_ck mq_141 1 := ⟨⟨by decide, by decide, by decide +kernel⟩, by decide, wd_326⟩
set_option maxRecDepth 20000 in
theorem mk_142 : zz_mt[142]? = some mq_142 := rfl
theorem ck_142 : zz_ck mq_142 2 := ⟨⟨by decide, by decide, by decide +kernel⟩, by decide, wd_343⟩
set_option maxRecDepth 20000 in
theorem mk_143 : zz_mt[143]? = some mq_143 := rfl
theorem ck_143 : zz_ck mq_143 3 := ⟨⟨by decide, by decide, by decide +kernel⟩, by decide, wd_339⟩
set_option maxRecDepth 20000 in
theorem mk_144 : zz_mt[144]? = some mq_144 := rfl
theorem ck_144 : zz_ck mq_144 2 := ⟨⟨by decide, by decide, by decide +kernel⟩, by decide, wd_831⟩
set_option maxRecDepth 20000 in
theorem mk_145 : zz_mt[145]? = some mq_145 := rfl
theorem ck_145 : zz_ck mq_145 4 := ⟨⟨by decide, by decide, by decide +kernel⟩, by decide, wd_836⟩
set_option maxRecDepth 20000 in
theorem mk_146 : zz_mt[146]? = some mq_146 := rfl
theorem ck_146 : zz_ck mq_146 1 := ⟨⟨by decide, by decide, by decide +kernel⟩, by decide, wd_822⟩
set_option maxRecDepth 20000 in
theorem mk_147 : zz_mt[147]? = some mq_147 := rfl
theorem ck_147 : zz_ck mq_147 0 := ⟨⟨by decide, by decide, by decide +kernel⟩, by decide, wd_601⟩
set_option maxRecDepth 20000 in
theorem mk_148 : zz_mt[148]? = some mq_148 := rfl
theorem ck_148 : zz_ck mq_148 1 := ⟨⟨by decide, by decide, by decide +kernel⟩, by decide, wd_941⟩
set_option maxRecDepth 20000 in
theorem mk_149 : zz_mt[149]? = some mq_149 := rfl
theorem ck_149 : zz_ck mq_149 1 := ⟨⟨by decide, by decide, by decide +kernel⟩, by decide, wd_649⟩
set_option maxRecDepth 20000 in
theorem mk_150 : zz_mt[150]? = some mq_150 := rfl
theorem ck_150 : zz_ck mq_150 1 := ⟨⟨by decide, by decide, by decide +kernel⟩, by decide, wd_718⟩
set_option maxRecDepth 20000 in
theorem mk_151 : zz_mt[151]? = some mq_151 := rfl
theorem ck_151 : zz_ck mq_151 1 := ⟨⟨by decide, by decide, by decide +kernel⟩, by decide, wd_885⟩
set_option maxRecDepth 20000 in
theorem mk_152 : zz_mt[152]? = some mq_152 := rfl
theorem ck_152 : zz_ck mq_152 1 := ⟨⟨by decide, by decide, by decide +kernel⟩, by decide, wd_515⟩
set_option maxRecDepth 20000 in
theorem mk_153 : zz_mt[153]? = some mq_153 := rfl
theorem ck_153 : zz_ck mq_153 1 := ⟨⟨by decide, by decide, by decide +kernel⟩, by decide, wd_487⟩
set_option maxRecDepth 20000 in
theorem mk_154 : zz_mt[154]? = some mq_154 := rfl
theorem ck_154 : zz_ck mq_154 2 := ⟨⟨by decide, by decide, by decide +kernel⟩, by decide, wd_560⟩
set_option maxRecDepth 20000 in
theorem mk_155 : zz_mt[155]? = some mq_155 := rfl
theorem ck_155 : zz_ck mq_155 2 := ⟨⟨by decide, by decide, by decide +kernel⟩, by decide, wd_563⟩
set_option maxRecDepth 20000 in
theorem mk_156 : zz_mt[156]? = some mq_156 := rfl
theorem ck_156 : zz_ck mq_156 4 := ⟨⟨by decide, by decide, by decide +kernel⟩, by decide, wd_482⟩
set_option maxRecDepth 20000 in
theorem mk_157 : zz_mt[157]? = some mq_157 := rfl
theorem ck_157 : zz_ck mq_157 3 := ⟨⟨by decide, by decide, by decide +kernel⟩, by decide, wd_1064⟩
set_option maxRecDepth 20000 in
theorem mk_158 : zz_mt[158]? = some mq_158 := rfl
theorem ck_158 : zz_ck mq_158 2 := ⟨⟨by decide, by decide, by decide +kernel⟩, by decide, wd_1345⟩
set_option maxRecDepth 20000 in
theorem mk_159 : zz_mt[159]? = some mq_159 := rfl
theorem ck_159 : zz_ck mq_159 1 := ⟨⟨by decide, by decide, by decide +kernel⟩, by decide, wd_1334⟩
set_option maxRecDepth 20000 in
theorem mk_160 : zz_mt[160]? = some mq_160 := rfl
theorem ck_160 : zz_ck mq_160 1 := ⟨⟨by decide, by decide, by decide +kernel⟩, by decide, wd_1177⟩
set_option maxRecDepth 20000 in
theorem mk_161 : zz_mt[161]? = some mq_161 := rfl
theorem ck_161 : zz_ck mq_161 1 := ⟨⟨by decide, by decide, by decide +kernel⟩, by decide, wd_1068⟩
set_option maxRecDepth 20000 in
theorem mk_162 : zz_mt[162]? = some mq_162 := rfl
theorem ck_162 : zz_ck mq_162 2 := ⟨⟨by decide, by decide, by decide +kernel⟩, by decide, wd_1084⟩
set_option maxRecDepth 20000 in
theorem mk_163 : zz_mt[163]? = some mq_163 := rfl
theorem ck_163 : zz_ck mq_163 3 := ⟨⟨by decide, by decide, by decide +kernel⟩, by decide, wd_1151⟩
set_option maxRecDepth 20000 in
theorem mk_164 : zz_mt[164]? = some mq_164 := rfl
theorem ck_164 : zz_ck mq_164 1 := ⟨⟨by decide, by decide, by decide +kernel⟩, by decide, wd_1060⟩
set_option maxRecDepth 20000 in
theorem mk_165 : zz_mt[165]? = some mq_165 := rfl
theorem ck_165 : zz_ck mq_165 1 := ⟨⟨by decide, by decide, by decide +kernel⟩, by decide, wd_1107⟩
set_option maxRecDepth 20000 in
theorem mk_166 : zz_mt[166]? = some mq_166 := rfl
theorem ck_166 : zz_ck mq_166 2 := ⟨⟨by decide, by decide, by decide +kernel⟩, by decide, wd_1072⟩
set_option maxRecDepth 20000 in
theorem mk_167 : zz_mt[167]? = some mq_167 := rfl
theorem ck_167 : zz_ck mq_167 2 := ⟨⟨by decide, by decide, by decide +kernel⟩, by decide, wd_1057⟩
set_option maxRecDepth 20000 in
theorem mk_168 : zz_mt[168]? = some mq_168 := rfl
theorem ck_168 : zz_ck mq_168 3 := ⟨⟨by decide, by decide, by decide +kernel⟩, by decide, wd_1076⟩
set_option maxRecDepth 20000 in
theorem mk_169 : zz_mt[169]? = some mq_169 := rfl
theorem ck_169 : zz_ck mq_169 2 := ⟨⟨by decide, by decide, by decide +kernel⟩, by decide, wd_1080⟩
set_option maxRecDepth 20000 in
theorem mk_170 : zz_mt[170]? = some mq_170 := rfl
theorem ck_170 : zz_ck mq_170 1 := ⟨⟨by decide, by decide, by decide +kernel⟩, by decide, wd_1089⟩
set_option maxRecDepth 20000 in
theorem mk_171 : zz_mt[171]? = some mq_171 := rfl
theorem ck_171 : zz_ck mq_171 3 := ⟨⟨by decide, by decide, by decide +kernel⟩, by decide, wd_1096⟩
set_option maxRecDepth 20000 in
theorem mk_172 : zz_mt[172]? = some mq_172 := rfl
theorem ck_172 : zz_ck mq_172 5 := ⟨⟨by decide, by decide, by decide +kernel⟩, by decide, wd_1093⟩
set_option maxRecDepth 20000 in
theorem mk_173 : zz_mt[173]? = some mq_173 := rfl
theorem ck_173 : zz_ck mq_173 1 := ⟨⟨by decide, by decide, by decide +kernel⟩, by decide, wd_1100⟩
set_option maxRecDepth 20000 in
theorem mk_174 : zz_mt[174]? = some mq_174 := rfl
theorem ck_174 : zz_ck mq_174 2 := ⟨⟨by decide, by decide, by decide +kernel⟩, by decide, wd_1104⟩
set_option maxRecDepth 20000 in
theorem mk_175 : zz_mt[175]? = some mq_175 := rfl
theorem ck_175 : zz_ck mq_175 3 := ⟨⟨by decide, by decide, by decide +kernel⟩, by decide, wd_1112⟩
set_option maxRecDepth 20000 in
theorem mk_176 : zz_mt[176]? = some mq_176 := rfl
theorem ck_176 : zz_ck mq_176 1 := ⟨⟨by decide, by decide, by decide +kernel⟩, by decide, wd_1143⟩
set_option maxRecDepth 20000 in
theorem mk_177 : zz_mt[177]? = some mq_177 := rfl
theorem ck_177 : zz_ck mq_177 2 := ⟨⟨by decide, by decide, by decide +kernel⟩, by decide, wd_1128⟩
set_option maxRecDepth 20000 in
theorem mk_178 : zz_mt[178]? = some mq_178 := rfl
theorem ck_178 : zz_ck mq_178 1 := ⟨⟨by decide, by decide, by decide +kernel⟩, by decide, wd_1124⟩
set_option maxRecDepth 20000 in
theorem mk_179 : zz_mt[179]? = some mq_179 := rfl
theorem ck_179 : zz_ck mq_179 2 := ⟨⟨by decide, by decide, by decide +kernel⟩, by decide, wd_1136⟩
set_option maxRecDepth 20000 in
theorem mk_180 : zz_mt[180]? = some mq_180 := rfl
theorem ck_180 : zz_ck mq_180 1 := ⟨⟨by decide, by decide, by decide +kernel⟩, by decide, wd_1132⟩
set_option maxRecDepth 20000 in
theorem mk_181 : zz_mt[181]? = some mq_181 := rfl
theorem ck_181 : zz_ck mq_181 1 := ⟨⟨by decide, by decide, by decide +kernel⟩, by decide, wd_1140⟩
set_option maxRecDepth 20000 in
theorem mk_182 : zz_mt[182]? = some mq_182 := rfl
theorem ck_182 : zz_ck mq_182 1 := ⟨⟨by decide, by decide, by decide +kernel⟩, by decide, wd_1120⟩
set_option maxRecDepth 20000 in
theorem mk_183 : zz_mt[183]? = some mq_183 := rfl
theorem ck_183 : zz_ck mq_183 1 := ⟨⟨by decide, by decide, by decide +kernel⟩, by decide, wd_1116⟩
set_option maxRecDepth 20000 in
theorem mk_184 : zz_mt[184]? = some mq_184 := rfl
theorem ck_184 : zz_ck mq_184 1 := ⟨⟨by decide, by decide, by decide +kernel⟩, by decide, wd_1147⟩
set_option maxRecDepth 20000 in
theorem mk_185 : zz_mt[185]? = some mq_185 := rfl
theorem ck_185 : zz_ck mq_185 1 := ⟨⟨by decide, by decide, by decide +kernel⟩, by decide, wd_1159⟩
set_option maxRecDepth 20000 in
theorem mk_186 : zz_mt[186]? = some mq_186 := rfl
theorem ck_186 : zz_ck mq_186 1 := ⟨⟨by decide, by decide, by decide +kernel⟩, by decide, wd_1166⟩
set_option maxRecDepth 20000 in
theorem mk_187 : zz_mt[187]? = some mq_187 := rfl
theorem ck_187 : zz_ck mq_187 1 := ⟨⟨by decide, by decide, by decide +kernel⟩, by decide, wd_1185⟩
set_option maxRecDepth 20000 in
theorem mk_188 : zz_mt[188]? = some mq_188 := rfl
theorem ck_188 : zz_ck mq_188 3 := ⟨⟨by decide, by decide, by decide +kernel⟩, by decide, wd_1181⟩
set_option maxRecDepth 20000 in
theorem mk_189 : zz_mt[189]? = some mq_189 := rfl
theorem ck_189 : zz_ck mq_189 3 := ⟨⟨by decide, by decide, by decide +kernel⟩, by decide, wd_1193⟩
set_option maxRecDepth 20000 in
theorem mk_190 : zz_mt[190]? = some mq_190 := rfl
theorem ck_190 : zz_ck mq_190 2 := ⟨⟨by decide, by decide, by decide +kernel⟩, by decide, wd_1189⟩
set_option maxRecDepth 20000 in
theorem mk_191 : zz_mt[191]? = some mq_191 := rfl
theorem ck_191 : zz_ck mq_191 4 := ⟨⟨by decide, by decide, by decide +kernel⟩, by decide, wd_1200⟩
set_option maxRecDepth 20000 in
theorem mk_192 : zz_mt[192]? = some mq_192 := rfl
theorem ck_192 : zz_ck mq_192 4 := ⟨⟨by decide, by decide, by decide +kernel⟩, by decide, wd_1197⟩
set_option maxRecDepth 20000 in
theorem mk_193 : zz_mt[193]? = some mq_193 := rfl
theorem ck_193 : zz_ck mq_193 2 := ⟨⟨by decide, by decide, by decide +kernel⟩, by decide, wd_1155⟩
set_option maxRecDepth 20000 in
theorem mk_194 : zz_mt[194]? = some mq_194 := rfl
theorem ck_194 : zz_ck mq_194 2 := ⟨⟨by decide, by decide, by decide +kernel⟩, by decide, wd_1163⟩
set_option maxRecDepth 20000 in
theorem mk_195 : zz_mt[195]? = some mq_195 := rfl
theorem ck_195 : zz_ck mq_195 2 := ⟨⟨by decide, by decide, by decide +kernel⟩, by decide, wd_1174⟩
set_option maxRecDepth 20000 in
theorem mk_196 : zz_mt[196]? = some mq_196 := rfl
theorem ck_196 : zz_ck mq_196 2 := ⟨⟨by decide, by decide, by decide +kernel⟩, by decide, wd_1170⟩
set_option maxRecDepth 20000 in
theorem mk_197 : zz_mt[197]? = some mq_197 := rfl
theorem ck_197 : zz_ck mq_197 1 := ⟨⟨by decide, by decide, by decide +kernel⟩, by decide, wd_1204⟩
set_option maxRecDepth 20000 in
theorem mk_198 : zz_mt[198]? = some mq_198 := rfl
theorem ck_198 : zz_ck mq_198 0 := ⟨⟨by decide, by decide, by decide +kernel⟩, by decide, wd_1213⟩
set_option maxRecDepth 20000 in
theorem mk_199 : zz_mt[199]? = some mq_199 := rfl
theorem ck_199 : zz_ck mq_199 1 := ⟨⟨by decide, by decide, by decide +kernel⟩, by decide, wd_1225⟩
set_option maxRecDepth 20000 in
theorem mk_200 : zz_mt[200]? = some mq_200 := rfl
theorem ck_200 : zz_ck mq_200 0 := ⟨⟨by decide, by decide, by decide +kernel⟩, by decide, wd_1229⟩
set_option maxRecDepth 20000 in
theorem mk_201 : zz_mt[201]? = some mq_201 := rfl
theorem ck_201 : zz_ck mq_201 0 := ⟨⟨by decide, by decide, by decide +kernel⟩, by decide, wd_1221⟩
set_option maxRecDepth 20000 in
theorem mk_202 : zz_mt[202]? = some mq_202 := rfl
theorem ck_202 : zz_ck mq_202 0 := ⟨⟨by decide, by decide, by decide +kernel⟩, by decide, wd_1217⟩
set_option maxRecDepth 20000 in
theorem mk_203 : zz_mt[203]? = some mq_203 := rfl
theorem ck_203 : zz_ck mq_203 0 := ⟨⟨by decide, by decide, by decide +kernel⟩, by decide, wd_1209⟩
set_option maxRecDepth 20000 in
theorem mk_204 : zz_mt[204]? = some mq_204 := rfl
theorem ck_204 : zz_ck mq_204 2 := ⟨⟨by decide, by decide, by decide +kernel⟩, by decide, wd_1238⟩
set_option maxRecDepth 20000 in
theorem mk_205 : zz_mt[205]? = some mq_205 := rfl
theorem ck_205 : zz_ck mq_205 2 := ⟨⟨by decide, by decide, by decide +kernel⟩, by decide, wd_1233⟩
set_option maxRecDepth 20000 in
theorem mk_206 : zz_mt[206]? = some mq_206 := rfl
theorem ck_206 : zz_ck mq_206 1 := ⟨⟨by decide, by decide, by decide +kernel⟩, by decide, wd_1242⟩
set_option maxRecDepth 20000 in
theorem mk_207 : zz_mt[207]? = some mq_207 := rfl
theorem ck_207 : zz_ck mq_207 1 := ⟨⟨by decide, by decide, by decide +kernel⟩, by decide, wd_1246⟩
set_option maxRecDepth 20000 in
theorem mk_208 : zz_mt[208]? = some mq_208 := rfl
theorem ck_208 : zz_ck mq_208 1 := ⟨⟨by decide, by decide, by decide +kernel⟩, by decide, wd_1251⟩
set_option maxRecDepth 20000 in
theorem mk_209 : zz_mt[209]? = some mq_209 := rfl
theorem ck_209 : zz_ck mq_209 1 := ⟨⟨by decide, by decide, by decide +kernel⟩, by decide, wd_1258⟩
set_option maxRecDepth 20000 in
theorem mk_210 : zz_mt[210]? = some mq_210 := rfl
theorem ck_210 : zz_ck mq_210 2 := ⟨⟨by decide, by decide, by decide +kernel⟩, by decide, wd_1255⟩
set_option maxRecDepth 20000 in
theorem mk_211 : zz_mt[211]? = some mq_211 := rfl
theorem ck_211 : zz_ck mq_211 2 := ⟨⟨by decide, by decide, by decide +kernel⟩, by decide, wd_1267⟩
set_option maxRecDepth 20000 in
theorem mk_212 : zz_mt[212]? = some mq_212 := rfl
theorem ck_212 : zz_ck mq_212 2 := ⟨⟨by decide, by decide, by decide +kernel⟩, by decide, wd_1275⟩
set_option maxRecDepth 20000 in
theorem mk_213 : zz_mt[213]? = some mq_213 := rfl
theorem ck_213 : zz_ck mq_213 3 := ⟨⟨by decide, by decide, by decide +kernel⟩, by decide, wd_1279⟩
set_option maxRecDepth 20000 in
theorem mk_214 : zz_mt[214]? = some mq_214 := rfl
theorem ck_214 : zz_ck mq_214 2 := ⟨⟨by decide, by decide, by decide +kernel⟩, by decide, wd_1271⟩
set_option maxRecDepth 20000 in
theorem mk_215 : zz_mt[215]? = some mq_215 := rfl
theorem ck_215 : zz_ck mq_215 2 := ⟨⟨by decide, by decide, by decide +kernel⟩, by decide, wd_1263⟩
set_option maxRecDepth 20000 in
theorem mk_216 : zz_mt[216]? = some mq_216 := rfl
theorem ck_216 : zz_ck mq_216 1 := ⟨⟨by decide, by decide, by decide +kernel⟩, by decide, wd_1283⟩
set_option maxRecDepth 20000 in
theorem mk_217 : zz_mt[217]? = some mq_217 := rfl
theorem ck_217 : zz_ck mq_217 0 := ⟨⟨by decide, by decide, by decide +kernel⟩, by decide, wd_1287⟩
set_option maxRecDepth 20000 in
theorem mk_218 : zz_mt[218]? = some mq_218 := rfl
theorem ck_218 : zz_ck mq_218 3 := ⟨⟨by decide, by decide, by decide +kernel⟩, by decide, wd_1292⟩
set_option maxRecDepth 20000 in
theorem mk_219 : zz_mt[219]? = some mq_219 := rfl
theorem ck_219 : zz_ck mq_219 1 := ⟨⟨by decide, by decide, by decide +kernel⟩, by decide, wd_1300⟩
set_option maxRecDepth 20000 in
theorem mk_220 : zz_mt[220]? = some mq_220 := rfl
theorem ck_220 : zz_ck mq_220 1 := ⟨⟨by decide, by decide, by decide +kernel⟩, by decide, wd_1296⟩
set_option maxRecDepth 20000 in
theorem mk_221 : zz_mt[221]? = some mq_221 := rfl
theorem ck_221 : zz_ck mq_221 2 := ⟨⟨by decide, by decide, by decide +kernel⟩, by decide, wd_1304⟩
set_option maxRecDepth 20000 in
theorem mk_222 : zz_mt[222]? = some mq_222 := rfl
theorem ck_222 : zz_ck mq_222 3 := ⟨⟨by decide, by decide, by decide +kernel⟩, by decide, wd_1309⟩
set_option maxRecDepth 20000 in
theorem mk_223 : zz_mt[223]? = some mq_223 := rfl
theorem ck_223 : zz_ck mq_223 5 := ⟨⟨by decide, by decide, by decide +kernel⟩, by decide, wd_1323⟩
set_option maxRecDepth 20000 in
theorem mk_224 : zz_mt[224]? = some mq_224 := rfl
theorem ck_224 : zz_ck mq_224 1 := ⟨⟨by decide, by decide, by decide +kernel⟩, by decide, wd_1319⟩
set_option maxRecDepth 20000 in
theorem mk_225 : zz_mt[225]? = some mq_225 := rfl
theorem ck_225 : zz_ck mq_225 1 := ⟨⟨by decide, by decide, by decide +kernel⟩, by decide, wd_1331⟩
set_option maxRecDepth 20000 in
theorem mk_226 : zz_mt[226]? = some mq_226 := rfl
theorem ck_226 : zz_ck mq_226 0 := ⟨⟨by decide, by decide, by decide +kernel⟩, by decide, wd_1327⟩
set_option maxRecDepth 20000 in
theorem mk_227 : zz_mt[227]? = some mq_227 := rfl
theorem ck_227 : zz_ck mq_227 2 := ⟨⟨by decide, by decide, by decide +kernel⟩, by decide, wd_1314⟩
set_option maxRecDepth 20000 in
theorem mk_228 : zz_mt[228]? = some mq_228 := rfl
theorem ck_228 : zz_ck mq_228 1 := ⟨⟨by decide, by decide, by decide +kernel⟩, by decide, wd_1342⟩
set_option maxRecDepth 20000 in
theorem mk_229 : zz_mt[229]? = some mq_229 := rfl
theorem ck_229 : zz_ck mq_229 1 := ⟨⟨by decide, by decide, by decide +kernel⟩, by decide, wd_1338⟩
set_option maxRecDepth 20000 in
theorem mk_230 : zz_mt[230]? = some mq_230 := rfl
theorem ck_230 : zz_ck mq_230 1 := ⟨⟨by decide, by decide, by decide +kernel⟩, by decide, wd_1349⟩
set_option maxRecDepth 20000 in
theorem mk_231 : zz_mt[231]? = some mq_231 := rfl
theorem ck_231 : zz_ck mq_231 1 := ⟨⟨by decide, by decide, by decide +kernel⟩, by decide, wd_1354⟩
set_option maxRecDepth 20000 in
theorem mk_232 : zz_mt[232]? = some mq_232 := rfl
theorem ck_232 : zz_ck mq_232 1 := ⟨⟨by decide, by decide, by decide +kernel⟩, by decide, wd_1358⟩
set_option maxRecDepth 20000 in
theorem mk_233 : zz_mt[233]? = some mq_233 := rfl
theorem ck_233 : zz_ck mq_233 2 := ⟨⟨by decide, by decide, by decide +kernel⟩, by decide, wd_1366⟩
set_option maxRecDepth 20000 in
theorem mk_234 : zz_mt[234]? = some mq_234 := rfl
theorem ck_234 : zz_ck mq_234 4 := ⟨⟨by decide, by decide, by decide +kernel⟩, by decide, wd_1370⟩
set_option maxRecDepth 20000 in
theorem mk_235 : zz_mt[235]? = some mq_235 := rfl
theorem ck_235 : zz_ck mq_235 2 := ⟨⟨by decide, by decide, by decide +kernel⟩, by decide, wd_1362⟩
set_option maxRecDepth 20000 in
theorem mk_236 : zz_mt[236]? = some mq_236 := rfl
theorem ck_236 : zz_ck mq_236 2 := ⟨⟨by decide, by decide, by decide +kernel⟩, by decide, wd_1374⟩
set_option maxRecDepth 20000 in
theorem mk_237 : zz_mt[237]? = some mq_237 := rfl
theorem ck_237 : zz_ck mq_237 2 := ⟨⟨by decide, by decide, by decide +kernel⟩, by decide, wd_1378⟩
set_option maxRecDepth 20000 in
theorem mk_238 : zz_mt[238]? = some mq_238 := rfl
theorem ck_238 : zz_ck mq_238 2 := ⟨⟨by decide, by decide, by decide +kernel⟩, by decide, wd_1394⟩
set_option maxRecDepth 20000 in
theorem mk_239 : zz_mt[239]? = some mq_239 := rfl
theorem ck_239 : zz_ck mq_239 0 := ⟨⟨by decide, by decide, by decide +kernel⟩, by decide, wd_1402⟩
set_option maxRecDepth 20000 in
theorem mk_240 : zz_mt[240]? = some mq_240 := rfl
theorem ck_240 : zz_ck mq_240 0 := ⟨⟨by decide, by decide, by decide +kernel⟩, by decide, wd_1398⟩
set_option maxRecDepth 20000 in
theorem mk_241 : zz_mt[241]? = some mq_241 := rfl
theorem ck_241 : zz_ck mq_241 2 := ⟨⟨by decide, by decide, by decide +kernel⟩, by decide, wd_1390⟩
set_option maxRecDepth 20000 in
theorem mk_242 : zz_mt[242]? = some mq_242 := rfl
theorem ck_242 : zz_ck mq_242 1 := ⟨⟨by decide, by decide, by decide +kernel⟩, by decide, wd_1386⟩
set_option maxRecDepth 20000 in
theorem mk_243 : zz_mt[243]? = some mq_243 := rfl
theorem ck_243 : zz_ck mq_243 1 := ⟨⟨by decide, by decide, by decide +kernel⟩, by decide, wd_1382⟩
set_option maxRecDepth 20000 in
theorem mk_244 : zz_mt[244]? = some mq_244 := rfl
theorem ck_244 : zz_ck mq_244 1 := ⟨⟨by decide, by decide, by decide +kernel⟩, by decide, wd_1406⟩
set_option maxRecDepth 20000 in
theorem mk_245 : zz_mt[245]? = some mq_245 := rfl
theorem ck_245 : zz_ck mq_245 2 := ⟨⟨by decide, by decide, by decide +kernel⟩, by decide, wd_1419⟩
set_option maxRecDepth 20000 in
theorem mk_246 : zz_mt[246]? = some mq_246 := rfl
theorem ck_246 : zz_ck mq_246 3 := ⟨⟨by decide, by decide, by decide +kernel⟩, by decide, wd_1415⟩
set_option maxRecDepth 20000 in
theorem mk_247 : zz_mt[247]? = some mq_247 := rfl
theorem ck_247 : zz_ck mq_247 4 := ⟨⟨by decide, by decide, by decide +kernel⟩, by decide, wd_1410⟩
set_option maxRecDepth 20000 in
theorem mk_248 : zz_mt[248]? = some mq_248 := rfl
theorem ck_248 : zz_ck mq_248 3 := ⟨⟨by decide, by decide, by decide +kernel⟩, by decide, wd_1423⟩
set_option maxRecDepth 20000 in
theorem mk_249 : zz_mt[249]? = some mq_249 := rfl
theorem ck_249 : zz_ck mq_249 2 := ⟨⟨by decide, by decide, by decide +kernel⟩, by decide, wd_1427⟩
set_option maxRecDepth 20000 in
theorem mk_250 : zz_mt[250]? = some mq_250 := rfl
theorem ck_250 : zz_ck mq_250 0 := ⟨⟨by decide, by decide, by decide +kernel⟩, by decide, wd_1436⟩
set_option maxRecDepth 20000 in
theorem mk_251 : zz_mt[251]? = some mq_251 := rfl
theorem ck_251 : zz_ck mq_251 0 := ⟨⟨by decide, by decide, by decide +kernel⟩, by decide, wd_1440⟩
set_option maxRecDepth 20000 in
theorem mk_252 : zz_mt[252]? = some mq_252 := rfl
theorem ck_252 : zz_ck mq_252 0 := ⟨⟨by decide, by decide, by decide +kernel⟩, by decide, wd_1444⟩
set_option maxRecDepth 20000 in
theorem mk_253 : zz_mt[253]? = some mq_253 := rfl
theorem ck_253 : zz_ck mq_253 2 := ⟨⟨by decide, by decide, by decide +kernel⟩, by decide, wd_1455⟩
set_option maxRecDepth 20000 in
theorem mk_254 : zz_mt[254]? = some mq_254 := rfl
theorem ck_254 : zz_ck mq_254 2 := ⟨⟨by decide, by decide, by decide +kernel⟩, by decide, wd_1452⟩
set_option maxRecDepth 20000 in
theorem mk_255 : zz_mt[255]? = some mq_255 := rfl
theorem ck_255 : zz_ck mq_255 1 := ⟨⟨by decide, by decide, by decide +kernel⟩, by decide, wd_1448⟩
set_option maxRecDepth 20000 in
theorem mk_256 : zz_mt[256]? = some mq_256 := rfl
theorem ck_256 : zz_ck mq_256 0 := ⟨⟨by decide, by decide, by decide +kernel⟩, by decide, wd_1459⟩
set_option maxRecDepth 20000 in
theorem mk_257 : zz_mt[257]? = some mq_257 := rfl
theorem ck_257 : zz_ck mq_257 1 := ⟨⟨by decide, by decide, by decide +kernel⟩, by decide, wd_1463⟩
set_option maxRecDepth 20000 in
theorem mk_258 : zz_mt[258]? = some mq_258 := rfl
theorem ck_258 : zz_ck mq_258 1 := ⟨⟨by decide, by decide, by decide +kernel⟩, by decide, wd_1473⟩
set_option maxRecDepth 20000 in
theorem mk_259 : zz_mt[259]? = some mq_259 := rfl
theorem ck_259 : zz_ck mq_259 0 := ⟨⟨by decide, by decide, by decide +kernel⟩, by decide, wd_1467⟩
theorem zz_tabs_ok {offs : Array Int} {ts : List Nat} {pcs : List Nat} {pc : Nat} (h : (List.range ts.length).all (fun k => match ts[k]?, offs[k]? with
  | some t, some o => (match pcs[t]? with
    | some q => decide ((pc : Int) + o = (q : Int))
    | none => false)
  | _, _ => false) = true) : ∀ (k t : Nat), ts[k]? = some t → ∃ (off : Int) (q : Nat), offs[k]? = some off ∧ pcs[t]? = some q ∧ (pc : Int) + off = (q : Int) := by
  intro k t hk
  have hl := (List.getElem?_eq_some_iff.mp hk).1
  have h1 := List.all_eq_true.mp h k (List.mem_range.mpr hl)
  rw [hk] at h1
  cases ho : offs[k]? with
  | none => rw [ho] at h1; cases h1
  | some o =>
    rw [ho] at h1
    cases hq : pcs[t]? with
    | none => dsimp only at h1; rw [hq] at h1; cases h1
    | some q =>
      dsimp only at h1
      rw [hq] at h1
      exact ⟨o, q, rfl, rfl, of_decide_eq_true h1⟩
