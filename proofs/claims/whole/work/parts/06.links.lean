/-! ===== the two worlds, the methods, the links ===== -/
def shC : List ax_H := [Sum.inl (11, [some (some 1), some (some 2), some (some 3), some (some 4), some (some 5), some (some 6), some (some 7), some (some 8), some (some 9), some (some 10), some (some 11), some (some 12), some (some 13), none, none, none, none, some none, some none, some none]), Sum.inl (9, [some (some 14), none, none, none]), Sum.inl (1, [some (some 1), some (some 15), some (some 16), some (some 17), none, none, none]), Sum.inl (6, [some (some 1), some (some 18), none]), Sum.inl (7, [some (some 19), some (some 20), some (some 21), some (some 22), none, none, none]), Sum.inl (0, [some (some 23), some (some 24), some (some 25), some (some 26), some (some 27), some (some 28), some (some 29), some (some 30), some (some 31), none, none, none, none, none, none]), Sum.inl (8, [some (some 5), some (some 4), some (some 32), some (some 33), some (some 34), some (some 35), none, none, none]), Sum.inl (5, [some (some 36), none, none]), Sum.inl (2, [some (some 37), some (some 38), none, none]), Sum.inl (3, [some (some 39), some (some 40), some (some 41), some (some 42), none]), Sum.inl (4, [some (some 5), some (some 43), none, none]), Sum.inl (10, [some (some 44), none]), Sum.inr (false, 35), Sum.inr (false, 5), Sum.inr (false, 240), Sum.inr (false, 2), Sum.inr (false, 32), Sum.inr (false, 24), Sum.inr (false, 240), Sum.inr (false, 960), Sum.inr (false, 4), Sum.inr (false, 6), Sum.inr (false, 64), Sum.inr (false, 8), Sum.inr (false, 8), Sum.inr (false, 8), Sum.inr (false, 8), Sum.inr (false, 8), Sum.inr (false, 17), Sum.inr (false, 17), Sum.inr (false, 17), Sum.inr (false, 8), Sum.inr (false, 8), Sum.inr (false, 35), Sum.inr (false, 35), Sum.inr (false, 35), Sum.inr (false, 1440), Sum.inr (false, 384), Sum.inr (false, 180), Sum.inr (false, 10), Sum.inr (false, 10), Sum.inr (false, 10), Sum.inr (false, 10), Sum.inr (false, 8), Sum.inr (false, 120)]
theorem shC_0 : shC[0]? = some (Sum.inl (11, [some (some 1), some (some 2), some (some 3), some (some 4), some (some 5), some (some 6), some (some 7), some (some 8), some (some 9), some (some 10), some (some 11), some (some 12), some (some 13), none, none, none, none, some none, some none, some none])) := rfl
theorem shC_1 : shC[1]? = some (Sum.inl (9, [some (some 14), none, none, none])) := rfl
theorem shC_2 : shC[2]? = some (Sum.inl (1, [some (some 1), some (some 15), some (some 16), some (some 17), none, none, none])) := rfl
theorem shC_3 : shC[3]? = some (Sum.inl (6, [some (some 1), some (some 18), none])) := rfl
theorem shC_4 : shC[4]? = some (Sum.inl (7, [some (some 19), some (some 20), some (some 21), some (some 22), none, none, none])) := rfl
theorem shC_5 : shC[5]? = some (Sum.inl (0, [some (some 23), some (some 24), some (some 25), some (some 26), some (some 27), some (some 28), some (some 29), some (some 30), some (some 31), none, none, none, none, none, none])) := rfl
theorem shC_6 : shC[6]? = some (Sum.inl (8, [some (some 5), some (some 4), some (some 32), some (some 33), some (some 34), some (some 35), none, none, none])) := rfl
theorem shC_7 : shC[7]? = some (Sum.inl (5, [some (some 36), none, none])) := rfl
theorem shC_8 : shC[8]? = some (Sum.inl (2, [some (some 37), some (some 38), none, none])) := rfl
theorem shC_9 : shC[9]? = some (Sum.inl (3, [some (some 39), some (some 40), some (some 41), some (some 42), none])) := rfl
theorem shC_10 : shC[10]? = some (Sum.inl (4, [some (some 5), some (some 43), none, none])) := rfl
theorem shC_11 : shC[11]? = some (Sum.inl (10, [some (some 44), none])) := rfl
theorem shC_12 : shC[12]? = some (Sum.inr (false, 35)) := rfl
theorem shC_13 : shC[13]? = some (Sum.inr (false, 5)) := rfl
theorem shC_14 : shC[14]? = some (Sum.inr (false, 240)) := rfl
theorem shC_15 : shC[15]? = some (Sum.inr (false, 2)) := rfl
theorem shC_16 : shC[16]? = some (Sum.inr (false, 32)) := rfl
theorem shC_17 : shC[17]? = some (Sum.inr (false, 24)) := rfl
theorem shC_18 : shC[18]? = some (Sum.inr (false, 240)) := rfl
theorem shC_19 : shC[19]? = some (Sum.inr (false, 960)) := rfl
theorem shC_20 : shC[20]? = some (Sum.inr (false, 4)) := rfl
theorem shC_21 : shC[21]? = some (Sum.inr (false, 6)) := rfl
theorem shC_22 : shC[22]? = some (Sum.inr (false, 64)) := rfl
theorem shC_23 : shC[23]? = some (Sum.inr (false, 8)) := rfl
theorem shC_24 : shC[24]? = some (Sum.inr (false, 8)) := rfl
theorem shC_25 : shC[25]? = some (Sum.inr (false, 8)) := rfl
theorem shC_26 : shC[26]? = some (Sum.inr (false, 8)) := rfl
theorem shC_27 : shC[27]? = some (Sum.inr (false, 8)) := rfl
theorem shC_28 : shC[28]? = some (Sum.inr (false, 17)) := rfl
theorem shC_29 : shC[29]? = some (Sum.inr (false, 17)) := rfl
theorem shC_30 : shC[30]? = some (Sum.inr (false, 17)) := rfl
theorem shC_31 : shC[31]? = some (Sum.inr (false, 8)) := rfl
theorem shC_32 : shC[32]? = some (Sum.inr (false, 8)) := rfl
theorem shC_33 : shC[33]? = some (Sum.inr (false, 35)) := rfl
theorem shC_34 : shC[34]? = some (Sum.inr (false, 35)) := rfl
theorem shC_35 : shC[35]? = some (Sum.inr (false, 35)) := rfl
theorem shC_36 : shC[36]? = some (Sum.inr (false, 1440)) := rfl
theorem shC_37 : shC[37]? = some (Sum.inr (false, 384)) := rfl
theorem shC_38 : shC[38]? = some (Sum.inr (false, 180)) := rfl
theorem shC_39 : shC[39]? = some (Sum.inr (false, 10)) := rfl
theorem shC_40 : shC[40]? = some (Sum.inr (false, 10)) := rfl
theorem shC_41 : shC[41]? = some (Sum.inr (false, 10)) := rfl
theorem shC_42 : shC[42]? = some (Sum.inr (false, 10)) := rfl
theorem shC_43 : shC[43]? = some (Sum.inr (false, 8)) := rfl
theorem shC_44 : shC[44]? = some (Sum.inr (false, 120)) := rfl
def shM : List ax_H := [Sum.inl (12, [none, some (some 1), none, none, none, none, some (some 2), some (some 3), some (some 4), some (some 5), some (some 6), some (some 7), some (some 8), none, none, some (some 9), some (some 10), some (some 11), some (some 12), some (some 13), none, none, some (some 14), none, none, some (some 15), some (some 16), none, none, none, some (some 17), some (some 18), some (some 19), some (some 20), none, none, some (some 21), none, some none, some (some 22), none, none, some (some 23), some (some 24), some (some 25), some (some 26), none, some (some 27), some (some 28), some (some 29), none, some (some 30), none]), Sum.inr (false, 240), Sum.inr (false, 2600), Sum.inr (false, 2600), Sum.inr (false, 5), Sum.inr (false, 5), Sum.inr (false, 700), Sum.inr (false, 700), Sum.inr (false, 700), Sum.inr (false, 6), Sum.inr (false, 80), Sum.inr (false, 2), Sum.inr (false, 32), Sum.inr (false, 24), Sum.inr (false, 32), Sum.inr (false, 268), Sum.inr (false, 5), Sum.inr (false, 36), Sum.inr (false, 36), Sum.inr (false, 36), Sum.inr (false, 8), Sum.inr (false, 10720), Sum.inr (false, 8), Sum.inr (false, 10), Sum.inr (false, 10), Sum.inr (false, 10), Sum.inr (true, 10), Sum.inr (false, 8), Sum.inr (false, 12), Sum.inr (true, 12), Sum.inr (false, 268)]
theorem shM_0 : shM[0]? = some (Sum.inl (12, [none, some (some 1), none, none, none, none, some (some 2), some (some 3), some (some 4), some (some 5), some (some 6), some (some 7), some (some 8), none, none, some (some 9), some (some 10), some (some 11), some (some 12), some (some 13), none, none, some (some 14), none, none, some (some 15), some (some 16), none, none, none, some (some 17), some (some 18), some (some 19), some (some 20), none, none, some (some 21), none, some none, some (some 22), none, none, some (some 23), some (some 24), some (some 25), some (some 26), none, some (some 27), some (some 28), some (some 29), none, some (some 30), none])) := rfl
theorem shM_1 : shM[1]? = some (Sum.inr (false, 240)) := rfl
theorem shM_2 : shM[2]? = some (Sum.inr (false, 2600)) := rfl
theorem shM_3 : shM[3]? = some (Sum.inr (false, 2600)) := rfl
theorem shM_4 : shM[4]? = some (Sum.inr (false, 5)) := rfl
theorem shM_5 : shM[5]? = some (Sum.inr (false, 5)) := rfl
theorem shM_6 : shM[6]? = some (Sum.inr (false, 700)) := rfl
theorem shM_7 : shM[7]? = some (Sum.inr (false, 700)) := rfl
theorem shM_8 : shM[8]? = some (Sum.inr (false, 700)) := rfl
theorem shM_9 : shM[9]? = some (Sum.inr (false, 6)) := rfl
theorem shM_10 : shM[10]? = some (Sum.inr (false, 80)) := rfl
theorem shM_11 : shM[11]? = some (Sum.inr (false, 2)) := rfl
theorem shM_12 : shM[12]? = some (Sum.inr (false, 32)) := rfl
theorem shM_13 : shM[13]? = some (Sum.inr (false, 24)) := rfl
theorem shM_14 : shM[14]? = some (Sum.inr (false, 32)) := rfl
theorem shM_15 : shM[15]? = some (Sum.inr (false, 268)) := rfl
theorem shM_16 : shM[16]? = some (Sum.inr (false, 5)) := rfl
theorem shM_17 : shM[17]? = some (Sum.inr (false, 36)) := rfl
theorem shM_18 : shM[18]? = some (Sum.inr (false, 36)) := rfl
theorem shM_19 : shM[19]? = some (Sum.inr (false, 36)) := rfl
theorem shM_20 : shM[20]? = some (Sum.inr (false, 8)) := rfl
theorem shM_21 : shM[21]? = some (Sum.inr (false, 10720)) := rfl
theorem shM_22 : shM[22]? = some (Sum.inr (false, 8)) := rfl
theorem shM_23 : shM[23]? = some (Sum.inr (false, 10)) := rfl
theorem shM_24 : shM[24]? = some (Sum.inr (false, 10)) := rfl
theorem shM_25 : shM[25]? = some (Sum.inr (false, 10)) := rfl
theorem shM_26 : shM[26]? = some (Sum.inr (true, 10)) := rfl
theorem shM_27 : shM[27]? = some (Sum.inr (false, 8)) := rfl
theorem shM_28 : shM[28]? = some (Sum.inr (false, 12)) := rfl
theorem shM_29 : shM[29]? = some (Sum.inr (true, 12)) := rfl
theorem shM_30 : shM[30]? = some (Sum.inr (false, 268)) := rfl
theorem st_0 : ax_st[0]? = some (RX11, "SO_BY_STROKE", "[I", .int, [8, 7, 6]) := rfl
theorem st_1 : ax_st[1]? = some (RX11, "SO_BY_SPARK", "[I", .int, [3, 1, 5]) := rfl
theorem st_2 : ax_st[2]? = some (RX1, "LETTERS", "[C", .char, [99, 100, 120, 116, 108, 107, 97, 98, 115]) := rfl
theorem st_3 : ax_st[3]? = some (RX1, "LOWEST", "[I", .int, [0, 0, 0, 1, 1, 0, 0, 0, 0]) := rfl
theorem st_4 : ax_st[4]? = some (RX1, "HIGHEST", "[I", .int, [99, 9, 20, 9, 99, 3, 7, 7, 9]) := rfl
theorem st_5 : ax_st[5]? = some (RX1, "WITHOUT", "[I", .int, [20, 0, 0, 3, 20, 0, 0, 1, 0]) := rfl
theorem st_6 : ax_st[6]? = some (RX6, "LETTERS", "[C", .char, [112, 116, 108, 107, 110, 100]) := rfl
abbrev mX0_take : ax_M := (yX0_take, cX0_take, 4, none)
abbrev mX0_write : ax_M := (yX0_write, cX0_write, 5, none)
abbrev mX0_read : ax_M := (yX0_read, cX0_read, 6, none)
abbrev mX0_uncut : ax_M := (yX0_uncut, cX0_uncut, 1, (some .int))
abbrev mX0_live : ax_M := (yX0_live, cX0_live, 3, (some .int))
abbrev mX0_touching : ax_M := (yX0_touching, cX0_touching, 3, (some .int))
abbrev mX0_touchAnew : ax_M := (yX0_touchAnew, cX0_touchAnew, 2, none)
abbrev mX0_reach : ax_M := (yX0_reach, cX0_reach, 8, (some .int))
abbrev mX0_mayJoin : ax_M := (yX0_mayJoin, cX0_mayJoin, 3, (some .boolean))
abbrev mX0_apart : ax_M := (yX0_apart, cX0_apart, 3, (some .int))
abbrev mX0_price : ax_M := (yX0_price, cX0_price, 3, (some .int))
abbrev mX0_think : ax_M := (yX0_think, cX0_think, 4, none)
abbrev mX0_addCopper : ax_M := (yX0_addCopper, cX0_addCopper, 2, none)
abbrev mX0_bearsEarthed : ax_M := (yX0_bearsEarthed, cX0_bearsEarthed, 2, (some .int))
abbrev mX0_scorch : ax_M := (yX0_scorch, cX0_scorch, 3, none)
abbrev mX0_passSummer : ax_M := (yX0_passSummer, cX0_passSummer, 2, none)
abbrev mX0_heights : ax_M := (yX0_heights, cX0_heights, 3, (some .int))
abbrev mX0_leastBorne : ax_M := (yX0_leastBorne, cX0_leastBorne, 3, (some .int))
abbrev mX0_highest : ax_M := (yX0_highest, cX0_highest, 4, (some .int))
abbrev mX0_saltiest : ax_M := (yX0_saltiest, cX0_saltiest, 4, (some .int))
abbrev mX1_reads : ax_M := (yX1_reads, cX1_reads, 2, (some .boolean))
abbrev mX1_readsClause : ax_M := (yX1_readsClause, cX1_readsClause, 2, (some .boolean))
abbrev mX1_setWithout : ax_M := (yX1_setWithout, cX1_setWithout, 6, none)
abbrev mX1_readsItems : ax_M := (yX1_readsItems, cX1_readsItems, 8, (some .boolean))
abbrev mX1_itemAt : ax_M := (yX1_itemAt, cX1_itemAt, 5, (some .int))
abbrev mX1_readsNumberOf : ax_M := (yX1_readsNumberOf, cX1_readsNumberOf, 2, (some .boolean))
abbrev mX1_isWhole : ax_M := (yX1_isWhole, cX1_isWhole, 2, (some .boolean))
abbrev mX1_isWireSound : ax_M := (yX1_isWireSound, cX1_isWireSound, 7, (some .boolean))
abbrev mX1_isChapel : ax_M := (yX1_isChapel, cX1_isChapel, 2, (some .boolean))
abbrev mX2_clear : ax_M := (yX2_clear, cX2_clear, 1, none)
abbrev mX2_length : ax_M := (yX2_length, cX2_length, 1, (some .int))
abbrev mX2_add : ax_M := (yX2_add, cX2_add, 5, none)
abbrev mX2_tells : ax_M := (yX2_tells, cX2_tells, 3, (some .int))
abbrev mX2_keep : ax_M := (yX2_keep, cX2_keep, 3, none)
abbrev mX2_giveBack : ax_M := (yX2_giveBack, cX2_giveBack, 2, none)
abbrev mX3_add : ax_M := (yX3_add, cX3_add, 5, none)
abbrev mX4_seek : ax_M := (yX4_seek, cX4_seek, 1, (some .boolean))
abbrev mX4_pairFrom : ax_M := (yX4_pairFrom, cX4_pairFrom, 7, none)
abbrev mX4_keepLeast : ax_M := (yX4_keepLeast, cX4_keepLeast, 3, none)
abbrev mX5_clear : ax_M := (yX5_clear, cX5_clear, 1, none)
abbrev mX5_remember : ax_M := (yX5_remember, cX5_remember, 4, none)
abbrev mX5_goBack : ax_M := (yX5_goBack, cX5_goBack, 3, (some .int))
abbrev mX6_reads : ax_M := (yX6_reads, cX6_reads, 2, (some .boolean))
abbrev mX6_readsClause : ax_M := (yX6_readsClause, cX6_readsClause, 4, (some .boolean))
abbrev mX6_readsCondition : ax_M := (yX6_readsCondition, cX6_readsCondition, 4, (some .boolean))
abbrev mX6_readsTruth : ax_M := (yX6_readsTruth, cX6_readsTruth, 4, (some .boolean))
abbrev mX6_readsUnit : ax_M := (yX6_readsUnit, cX6_readsUnit, 4, (some .boolean))
abbrev mX6_readsNested : ax_M := (yX6_readsNested, cX6_readsNested, 3, (some .boolean))
abbrev mX6_comparison : ax_M := (yX6_comparison, cX6_comparison, 1, (some .int))
abbrev mX6_readsSum : ax_M := (yX6_readsSum, cX6_readsSum, 4, (some .boolean))
abbrev mX6_readsTerm : ax_M := (yX6_readsTerm, cX6_readsTerm, 4, (some .boolean))
abbrev mX6_readsAtom : ax_M := (yX6_readsAtom, cX6_readsAtom, 4, (some .boolean))
abbrev mX6_put : ax_M := (yX6_put, cX6_put, 3, none)
abbrev mX7_add : ax_M := (yX7_add, cX7_add, 2, (some .int))
abbrev mX7_readBears : ax_M := (yX7_readBears, cX7_readBears, 2, (some .boolean))
abbrev mX7_tell : ax_M := (yX7_tell, cX7_tell, 7, none)
abbrev mX7_worth : ax_M := (yX7_worth, cX7_worth, 7, (some .int))
abbrev mX7_push : ax_M := (yX7_push, cX7_push, 2, none)
abbrev mX7_pop : ax_M := (yX7_pop, cX7_pop, 1, (some .int))
abbrev mX7_join : ax_M := (yX7_join, cX7_join, 7, (some .int))
abbrev mX8_fall : ax_M := (yX8_fall, cX8_fall, 5, (some .int))
abbrev mX8_send : ax_M := (yX8_send, cX8_send, 4, none)
abbrev mX8_arrive : ax_M := (yX8_arrive, cX8_arrive, 9, none)
abbrev mX8_pass : ax_M := (yX8_pass, cX8_pass, 6, none)
abbrev mX8_burningBits : ax_M := (yX8_burningBits, cX8_burningBits, 3, (some .int))
abbrev mX9_addBytes : ax_M := (yX9_addBytes, cX9_addBytes, 4, none)
abbrev mX9_sign : ax_M := (yX9_sign, cX9_sign, 1, (some .int))
abbrev mX9_takes : ax_M := (yX9_takes, cX9_takes, 2, (some .boolean))
abbrev mX9_takesNumber : ax_M := (yX9_takesNumber, cX9_takesNumber, 3, (some .boolean))
abbrev mX9_atDigit : ax_M := (yX9_atDigit, cX9_atDigit, 1, (some .boolean))
abbrev mX10_gather : ax_M := (yX10_gather, cX10_gather, 5, none)
abbrev mX10_add : ax_M := (yX10_add, cX10_add, 2, none)
abbrev mX11_feed : ax_M := (yX11_feed, cX11_feed, 7, (some .int))
abbrev mX11_end : ax_M := (yX11_end, cX11_end, 2, (some .boolean))
abbrev mX11_fault : ax_M := (yX11_fault, cX11_fault, 2, (some .int))
abbrev mX11_text : ax_M := (yX11_text, cX11_text, 2, (some .int))
abbrev mX11_law : ax_M := (yX11_law, cX11_law, 2, (some .boolean))
abbrev mX11_house : ax_M := (yX11_house, cX11_house, 3, (some .int))
abbrev mX11_wire : ax_M := (yX11_wire, cX11_wire, 3, (some .int))
abbrev mX11_status : ax_M := (yX11_status, cX11_status, 2, (some .int))
abbrev mX11_log : ax_M := (yX11_log, cX11_log, 3, (some .int))
abbrev mX11_count : ax_M := (yX11_count, cX11_count, 2, (some .int))
abbrev mX11_strike : ax_M := (yX11_strike, cX11_strike, 3, (some .int))
abbrev mX11_lay : ax_M := (yX11_lay, cX11_lay, 3, (some .int))
abbrev mX11_cut : ax_M := (yX11_cut, cX11_cut, 2, (some .int))
abbrev mX11_scrape : ax_M := (yX11_scrape, cX11_scrape, 2, (some .int))
abbrev mX11_ground : ax_M := (yX11_ground, cX11_ground, 2, (some .int))
abbrev mX11_summers : ax_M := (yX11_summers, cX11_summers, 3, (some .int))
abbrev mX11_set : ax_M := (yX11_set, cX11_set, 3, (some .boolean))
abbrev mX11_decades : ax_M := (yX11_decades, cX11_decades, 5, (some .int))
abbrev mX11_undo : ax_M := (yX11_undo, cX11_undo, 1, (some .int))
abbrev mX11_image : ax_M := (yX11_image, cX11_image, 1, (some .int))
abbrev mX11_back : ax_M := (yX11_back, cX11_back, 1, (some .int))
abbrev mX11_keeps : ax_M := (yX11_keeps, cX11_keeps, 4, (some .int))
abbrev mX11_burning : ax_M := (yX11_burning, cX11_burning, 3, (some .int))
abbrev mX11_lost : ax_M := (yX11_lost, cX11_lost, 3, (some .int))
abbrev mX11_marry : ax_M := (yX11_marry, cX11_marry, 9, (some .int))
abbrev mX11_parting : ax_M := (yX11_parting, cX11_parting, 10, (some .int))
abbrev mX11_stands : ax_M := (yX11_stands, cX11_stands, 3, (some .int))
abbrev mX11_earth : ax_M := (yX11_earth, cX11_earth, 4, (some .int))
abbrev mX11_couples : ax_M := (yX11_couples, cX11_couples, 2, (some .int))
abbrev mX11_single : ax_M := (yX11_single, cX11_single, 4, (some .int))
abbrev mX11_town : ax_M := (yX11_town, cX11_town, 2, (some .int))
abbrev mX11_net : ax_M := (yX11_net, cX11_net, 2, (some .int))
abbrev mX11_far : ax_M := (yX11_far, cX11_far, 3, (some .int))
abbrev mX11_most : ax_M := (yX11_most, cX11_most, 2, (some .int))
abbrev mX11_game : ax_M := (yX11_game, cX11_game, 7, (some .int))
abbrev mX11_rests : ax_M := (yX11_rests, cX11_rests, 9, (some .int))
abbrev mX11_leaves : ax_M := (yX11_leaves, cX11_leaves, 5, (some .int))
abbrev mX11_scorched : ax_M := (yX11_scorched, cX11_scorched, 5, (some .int))
abbrev mX11_who : ax_M := (yX11_who, cX11_who, 3, (some .int))
abbrev mX11_sure : ax_M := (yX11_sure, cX11_sure, 4, (some .int))
abbrev mX11_best : ax_M := (yX11_best, cX11_best, 6, (some .int))
abbrev mX11_odds : ax_M := (yX11_odds, cX11_odds, 3, (some .int))
abbrev mX11_premium : ax_M := (yX11_premium, cX11_premium, 4, (some .int))
abbrev mX11_test : ax_M := (yX11_test, cX11_test, 3, (some .int))
abbrev mX11_stroke : ax_M := (yX11_stroke, cX11_stroke, 3, (some .int))
abbrev mX11_bitOf : ax_M := (yX11_bitOf, cX11_bitOf, 2, (some .int))
abbrev mX11_isBit : ax_M := (yX11_isBit, cX11_isBit, 1, (some .boolean))
abbrev mX11_isStroke : ax_M := (yX11_isStroke, cX11_isStroke, 1, (some .boolean))
abbrev mX11_bytesOf : ax_M := (yX11_bytesOf, cX11_bytesOf, 3, (some .int))
abbrev mX11_tapeReads : ax_M := (yX11_tapeReads, cX11_tapeReads, 2, (some .boolean))
abbrev mX11_hasBelt : ax_M := (yX11_hasBelt, cX11_hasBelt, 1, (some .boolean))
abbrev mX11_isHouse : ax_M := (yX11_isHouse, cX11_isHouse, 2, (some .boolean))
abbrev mX11_areTwoHouses : ax_M := (yX11_areTwoHouses, cX11_areTwoHouses, 3, (some .boolean))
abbrev mX11_isWire : ax_M := (yX11_isWire, cX11_isWire, 2, (some .boolean))
abbrev mX11_mayPass : ax_M := (yX11_mayPass, cX11_mayPass, 2, (some .boolean))
abbrev mX11_mayPlay : ax_M := (yX11_mayPlay, cX11_mayPlay, 4, (some .boolean))
abbrev mX11_couldLay : ax_M := (yX11_couldLay, cX11_couldLay, 3, (some .boolean))
abbrev mX11_refuse : ax_M := (yX11_refuse, cX11_refuse, 2, (some .int))
abbrev mX11_remember : ax_M := (yX11_remember, cX11_remember, 1, none)
abbrev mX11_strikeNow : ax_M := (yX11_strikeNow, cX11_strikeNow, 4, (some .int))
abbrev mX11_strikeByChance : ax_M := (yX11_strikeByChance, cX11_strikeByChance, 3, none)
abbrev mX11_draw : ax_M := (yX11_draw, cX11_draw, 2, (some .int))
abbrev mX11_liveWith : ax_M := (yX11_liveWith, cX11_liveWith, 3, (some .int))
abbrev mX11_greatestBorne : ax_M := (yX11_greatestBorne, cX11_greatestBorne, 3, (some .int))
abbrev mX11_weakestBy : ax_M := (yX11_weakestBy, cX11_weakestBy, 4, (some .int))
abbrev mX11_standingAlike : ax_M := (yX11_standingAlike, cX11_standingAlike, 8, (some .int))
abbrev mX11_standingAfresh : ax_M := (yX11_standingAfresh, cX11_standingAfresh, 7, (some .int))
abbrev mX11_lowest : ax_M := (yX11_lowest, cX11_lowest, 3, (some .int))
abbrev mX11_rings : ax_M := (yX11_rings, cX11_rings, 4, (some .int))
abbrev mX11_bridges : ax_M := (yX11_bridges, cX11_bridges, 5, (some .int))
abbrev mX11_mostKept : ax_M := (yX11_mostKept, cX11_mostKept, 6, (some .int))
abbrev mX11_gain : ax_M := (yX11_gain, cX11_gain, 6, (some .int))
abbrev mX11_isRest : ax_M := (yX11_isRest, cX11_isRest, 6, (some .boolean))
abbrev mX11_wouldLeave : ax_M := (yX11_wouldLeave, cX11_wouldLeave, 7, (some .boolean))
abbrev mX11_gatherFitting : ax_M := (yX11_gatherFitting, cX11_gatherFitting, 5, none)
abbrev mX11_allSo : ax_M := (yX11_allSo, cX11_allSo, 4, (some .boolean))
abbrev mX11_burningSets : ax_M := (yX11_burningSets, cX11_burningSets, 5, (some .int))
abbrev mX11_burnParts : ax_M := (yX11_burnParts, cX11_burnParts, 8, (some .long))
abbrev mX12_in : ax_M := (yX12_in, cX12_in, 3, (some .boolean))
abbrev mX12_has : ax_M := (yX12_has, cX12_has, 2, (some .boolean))
abbrev mX12_thrown : ax_M := (yX12_thrown, cX12_thrown, 1, (some .int))
abbrev mX12_byteOf : ax_M := (yX12_byteOf, cX12_byteOf, 7, (some .int))
abbrev mX12_feed : ax_M := (yX12_feed, cX12_feed, 9, (some .int))
abbrev mX12_end : ax_M := (yX12_end, cX12_end, 2, (some .boolean))
abbrev mX12_here : ax_M := (yX12_here, cX12_here, 1, (some .int))
abbrev mX12_look : ax_M := (yX12_look, cX12_look, 1, (some .int))
abbrev mX12_bad : ax_M := (yX12_bad, cX12_bad, 1, none)
abbrev mX12_isDigit : ax_M := (yX12_isDigit, cX12_isDigit, 1, (some .boolean))
abbrev mX12_put : ax_M := (yX12_put, cX12_put, 3, none)
abbrev mX12_letterOf : ax_M := (yX12_letterOf, cX12_letterOf, 1, (some .int))
abbrev mX12_opens : ax_M := (yX12_opens, cX12_opens, 1, none)
abbrev mX12_closes : ax_M := (yX12_closes, cX12_closes, 2, none)
abbrev mX12_plainNumber : ax_M := (yX12_plainNumber, cX12_plainNumber, 3, (some .int))
abbrev mX12_atom : ax_M := (yX12_atom, cX12_atom, 2, none)
abbrev mX12_term : ax_M := (yX12_term, cX12_term, 2, none)
abbrev mX12_sum : ax_M := (yX12_sum, cX12_sum, 2, none)
abbrev mX12_isSign : ax_M := (yX12_isSign, cX12_isSign, 1, (some .boolean))
abbrev mX12_compare : ax_M := (yX12_compare, cX12_compare, 2, none)
abbrev mX12_unit : ax_M := (yX12_unit, cX12_unit, 2, none)
abbrev mX12_goOnAnd : ax_M := (yX12_goOnAnd, cX12_goOnAnd, 1, none)
abbrev mX12_goOnOr : ax_M := (yX12_goOnOr, cX12_goOnOr, 1, none)
abbrev mX12_condition : ax_M := (yX12_condition, cX12_condition, 1, none)
abbrev mX12_clause : ax_M := (yX12_clause, cX12_clause, 3, none)
abbrev mX12_open : ax_M := (yX12_open, cX12_open, 2, none)
abbrev mX12_atEnd : ax_M := (yX12_atEnd, cX12_atEnd, 1, (some .int))
abbrev mX12_readLaw : ax_M := (yX12_readLaw, cX12_readLaw, 2, (some .int))
abbrev mX12_bounded : ax_M := (yX12_bounded, cX12_bounded, 2, (some .int))
abbrev mX12_worked : ax_M := (yX12_worked, cX12_worked, 5, (some .int))
abbrev mX12_workOut : ax_M := (yX12_workOut, cX12_workOut, 6, (some .int))
abbrev mX12_worthOf : ax_M := (yX12_worthOf, cX12_worthOf, 3, (some .int))
abbrev mX12_number : ax_M := (yX12_number, cX12_number, 4, (some .int))
abbrev mX12_itemOf : ax_M := (yX12_itemOf, cX12_itemOf, 2, (some .int))
abbrev mX12_lowest : ax_M := (yX12_lowest, cX12_lowest, 2, (some .int))
abbrev mX12_highest : ax_M := (yX12_highest, cX12_highest, 2, (some .int))
abbrev mX12_usual : ax_M := (yX12_usual, cX12_usual, 2, (some .int))
abbrev mX12_items : ax_M := (yX12_items, cX12_items, 7, none)
abbrev mX12_isWhole : ax_M := (yX12_isWhole, cX12_isWhole, 6, (some .boolean))
abbrev mX12_readBelt : ax_M := (yX12_readBelt, cX12_readBelt, 4, (some .int))
abbrev mX12_fault : ax_M := (yX12_fault, cX12_fault, 2, (some .int))
abbrev mX12_takeBelt : ax_M := (yX12_takeBelt, cX12_takeBelt, 2, (some .int))
abbrev mX12_text : ax_M := (yX12_text, cX12_text, 2, (some .int))
abbrev mX12_of : ax_M := (yX12_of, cX12_of, 3, (some .int))
abbrev mX12_ofWire : ax_M := (yX12_ofWire, cX12_ofWire, 3, (some .int))
abbrev mX12_putWire : ax_M := (yX12_putWire, cX12_putWire, 4, none)
abbrev mX12_string : ax_M := (yX12_string, cX12_string, 5, (some .int))
abbrev mX12_isHouse : ax_M := (yX12_isHouse, cX12_isHouse, 2, (some .boolean))
abbrev mX12_isWire : ax_M := (yX12_isWire, cX12_isWire, 2, (some .boolean))
abbrev mX12_isLive : ax_M := (yX12_isLive, cX12_isLive, 2, (some .boolean))
abbrev mX12_isAt : ax_M := (yX12_isAt, cX12_isAt, 3, (some .boolean))
abbrev mX12_farOf : ax_M := (yX12_farOf, cX12_farOf, 3, (some .int))
abbrev mX12_liveAt : ax_M := (yX12_liveAt, cX12_liveAt, 5, (some .int))
abbrev mX12_allLive : ax_M := (yX12_allLive, cX12_allLive, 3, (some .int))
abbrev mX12_areTied : ax_M := (yX12_areTied, cX12_areTied, 4, (some .boolean))
abbrev mX12_areChapels : ax_M := (yX12_areChapels, cX12_areChapels, 3, (some .boolean))
abbrev mX12_sendPart : ax_M := (yX12_sendPart, cX12_sendPart, 4, none)
abbrev mX12_keepsBy : ax_M := (yX12_keepsBy, cX12_keepsBy, 5, (some .int))
abbrev mX12_goOver : ax_M := (yX12_goOver, cX12_goOver, 5, none)
abbrev mX12_layStroke : ax_M := (yX12_layStroke, cX12_layStroke, 11, none)
abbrev mX12_burningBy : ax_M := (yX12_burningBy, cX12_burningBy, 5, (some .int))
abbrev mX12_keepsOf : ax_M := (yX12_keepsOf, cX12_keepsOf, 4, (some .int))
abbrev mX12_isForce : ax_M := (yX12_isForce, cX12_isForce, 1, (some .boolean))
abbrev mX12_house : ax_M := (yX12_house, cX12_house, 3, (some .int))
abbrev mX12_wire : ax_M := (yX12_wire, cX12_wire, 3, (some .int))
abbrev mX12_law : ax_M := (yX12_law, cX12_law, 2, (some .boolean))
abbrev mX12_keep : ax_M := (yX12_keep, cX12_keep, 2, none)
abbrev mX12_isRefused : ax_M := (yX12_isRefused, cX12_isRefused, 2, (some .boolean))
abbrev mX12_strikeNow : ax_M := (yX12_strikeNow, cX12_strikeNow, 5, (some .int))
abbrev mX12_strike : ax_M := (yX12_strike, cX12_strike, 3, (some .int))
abbrev mX12_priceOf : ax_M := (yX12_priceOf, cX12_priceOf, 3, (some .int))
abbrev mX12_whyNot : ax_M := (yX12_whyNot, cX12_whyNot, 3, (some .int))
abbrev mX12_lay : ax_M := (yX12_lay, cX12_lay, 3, (some .int))
abbrev mX12_cut : ax_M := (yX12_cut, cX12_cut, 2, (some .int))
abbrev mX12_scrape : ax_M := (yX12_scrape, cX12_scrape, 2, (some .int))
abbrev mX12_ground : ax_M := (yX12_ground, cX12_ground, 2, (some .int))
abbrev mX12_passSummer : ax_M := (yX12_passSummer, cX12_passSummer, 2, none)
abbrev mX12_areSummers : ax_M := (yX12_areSummers, cX12_areSummers, 2, (some .boolean))
abbrev mX12_summers : ax_M := (yX12_summers, cX12_summers, 3, (some .int))
abbrev mX12_set : ax_M := (yX12_set, cX12_set, 3, (some .boolean))
abbrev mX12_draw : ax_M := (yX12_draw, cX12_draw, 2, (some .int))
abbrev mX12_heights : ax_M := (yX12_heights, cX12_heights, 3, (some .int))
abbrev mX12_drawStroke : ax_M := (yX12_drawStroke, cX12_drawStroke, 3, none)
abbrev mX12_decades : ax_M := (yX12_decades, cX12_decades, 5, (some .int))
abbrev mX12_status : ax_M := (yX12_status, cX12_status, 2, (some .int))
abbrev mX12_undo : ax_M := (yX12_undo, cX12_undo, 2, (some .int))
abbrev mX12_log : ax_M := (yX12_log, cX12_log, 3, (some .int))
abbrev mX12_keeps : ax_M := (yX12_keeps, cX12_keeps, 4, (some .int))
abbrev mX12_burning : ax_M := (yX12_burning, cX12_burning, 3, (some .int))
abbrev mX12_lost : ax_M := (yX12_lost, cX12_lost, 3, (some .int))
abbrev mX12_tryCouples : ax_M := (yX12_tryCouples, cX12_tryCouples, 6, none)
abbrev mX12_couples : ax_M := (yX12_couples, cX12_couples, 3, (some .int))
abbrev mX12_burnMany : ax_M := (yX12_burnMany, cX12_burnMany, 3, (some .int))
abbrev mX12_marry : ax_M := (yX12_marry, cX12_marry, 9, (some .int))
abbrev mX12_cutSet : ax_M := (yX12_cutSet, cX12_cutSet, 4, none)
abbrev mX12_uncut : ax_M := (yX12_uncut, cX12_uncut, 3, (some .int))
abbrev mX12_parting : ax_M := (yX12_parting, cX12_parting, 10, (some .int))
abbrev mX12_weakBy : ax_M := (yX12_weakBy, cX12_weakBy, 3, (some .int))
abbrev mX12_standsOf : ax_M := (yX12_standsOf, cX12_standsOf, 2, (some .int))
abbrev mX12_stands : ax_M := (yX12_stands, cX12_stands, 3, (some .int))
abbrev mX12_earth : ax_M := (yX12_earth, cX12_earth, 6, (some .int))
abbrev mX12_single : ax_M := (yX12_single, cX12_single, 3, (some .int))
abbrev mX12_townBut : ax_M := (yX12_townBut, cX12_townBut, 6, (some .int))
abbrev mX12_town : ax_M := (yX12_town, cX12_town, 2, (some .int))
abbrev mX12_net : ax_M := (yX12_net, cX12_net, 5, (some .int))
abbrev mX12_mostKept : ax_M := (yX12_mostKept, cX12_mostKept, 5, (some .int))
abbrev mX12_gameOf : ax_M := (yX12_gameOf, cX12_gameOf, 6, (some .int))
abbrev mX12_areTwo : ax_M := (yX12_areTwo, cX12_areTwo, 3, (some .boolean))
abbrev mX12_game : ax_M := (yX12_game, cX12_game, 8, (some .int))
abbrev mX12_rests : ax_M := (yX12_rests, cX12_rests, 12, (some .int))
abbrev mX12_leaves : ax_M := (yX12_leaves, cX12_leaves, 8, (some .int))
abbrev mX12_scorched : ax_M := (yX12_scorched, cX12_scorched, 5, (some .int))
abbrev mX12_isSo : ax_M := (yX12_isSo, cX12_isSo, 5, (some .boolean))
abbrev mX12_areCuts : ax_M := (yX12_areCuts, cX12_areCuts, 2, (some .boolean))
abbrev mX12_who : ax_M := (yX12_who, cX12_who, 5, (some .int))
abbrev mX12_sure : ax_M := (yX12_sure, cX12_sure, 4, (some .int))
abbrev mX12_best : ax_M := (yX12_best, cX12_best, 5, (some .int))
abbrev mX12_oddsOf : ax_M := (yX12_oddsOf, cX12_oddsOf, 6, (some .int))
abbrev mX12_odds : ax_M := (yX12_odds, cX12_odds, 3, (some .int))
abbrev mX12_premium : ax_M := (yX12_premium, cX12_premium, 4, (some .int))
abbrev mX12_test : ax_M := (yX12_test, cX12_test, 3, (some .int))
abbrev mX12_stroke : ax_M := (yX12_stroke, cX12_stroke, 8, (some .int))
abbrev mX12_far : ax_M := (yX12_far, cX12_far, 3, (some .int))
abbrev mX12_most : ax_M := (yX12_most, cX12_most, 5, (some .int))
abbrev mX12_image : ax_M := (yX12_image, cX12_image, 2, (some .int))
abbrev mX12_back : ax_M := (yX12_back, cX12_back, 2, (some .int))
abbrev mX12_count : ax_M := (yX12_count, cX12_count, 2, (some .int))
abbrev mJ6_bitCount_0f7a4 : ax_M := (yJ6_bitCount_0f7a4, cJ6_bitCount_0f7a4, 1, (some .int))
abbrev mJ6_numberOfTrailingZeros_0f7a4 : ax_M := (yJ6_numberOfTrailingZeros_0f7a4, cJ6_numberOfTrailingZeros_0f7a4, 2, (some .int))
abbrev mJ7_fill_53178 : ax_M := (yJ7_fill_53178, cJ7_fill_53178, 4, none)
theorem cm_X0_take : Cond.initialized mX0_take.1.cls ∈ ax_U ∧ Cond.code mX0_take.1 mX0_take.2.1 mX0_take.2.2.1 mX0_take.2.2.2 ∈ ax_U ∧ (mX0_take.1.cls ≠ "java/lang/invoke/MethodHandle" ∧ mX0_take.1.cls ≠ "java/lang/invoke/VarHandle" ∧ (parseMethodDescriptor mX0_take.1.desc).map (fun d => d.parameters.length) = some 1) ∧ mX0_take.2.2.1 ≤ 40 := ⟨ax_in 6 (by decide +kernel) rfl, ax_in 565 (by decide +kernel) rfl, ⟨by decide +kernel, by decide +kernel, by decide +kernel⟩, by decide⟩
theorem ci_X0_take : Cond.instanceMethod mX0_take.1 ∈ ax_U := ax_in 563 (by decide +kernel) rfl
theorem ce_X0_take : Cond.selects mX0_take.1.cls mX0_take.1 mX0_take.1 ∈ ax_U := ax_in 564 (by decide +kernel) rfl
theorem cm_X0_write : Cond.initialized mX0_write.1.cls ∈ ax_U ∧ Cond.code mX0_write.1 mX0_write.2.1 mX0_write.2.2.1 mX0_write.2.2.2 ∈ ax_U ∧ (mX0_write.1.cls ≠ "java/lang/invoke/MethodHandle" ∧ mX0_write.1.cls ≠ "java/lang/invoke/VarHandle" ∧ (parseMethodDescriptor mX0_write.1.desc).map (fun d => d.parameters.length) = some 2) ∧ mX0_write.2.2.1 ≤ 40 := ⟨ax_in 6 (by decide +kernel) rfl, ax_in 653 (by decide +kernel) rfl, ⟨by decide +kernel, by decide +kernel, by decide +kernel⟩, by decide⟩
theorem ci_X0_write : Cond.instanceMethod mX0_write.1 ∈ ax_U := ax_in 651 (by decide +kernel) rfl
theorem ce_X0_write : Cond.selects mX0_write.1.cls mX0_write.1 mX0_write.1 ∈ ax_U := ax_in 652 (by decide +kernel) rfl
theorem cm_X0_read : Cond.initialized mX0_read.1.cls ∈ ax_U ∧ Cond.code mX0_read.1 mX0_read.2.1 mX0_read.2.2.1 mX0_read.2.2.2 ∈ ax_U ∧ (mX0_read.1.cls ≠ "java/lang/invoke/MethodHandle" ∧ mX0_read.1.cls ≠ "java/lang/invoke/VarHandle" ∧ (parseMethodDescriptor mX0_read.1.desc).map (fun d => d.parameters.length) = some 2) ∧ mX0_read.2.2.1 ≤ 40 := ⟨ax_in 6 (by decide +kernel) rfl, ax_in 827 (by decide +kernel) rfl, ⟨by decide +kernel, by decide +kernel, by decide +kernel⟩, by decide⟩
theorem ci_X0_read : Cond.instanceMethod mX0_read.1 ∈ ax_U := ax_in 825 (by decide +kernel) rfl
theorem ce_X0_read : Cond.selects mX0_read.1.cls mX0_read.1 mX0_read.1 ∈ ax_U := ax_in 826 (by decide +kernel) rfl
theorem cm_X0_uncut : Cond.initialized mX0_uncut.1.cls ∈ ax_U ∧ Cond.code mX0_uncut.1 mX0_uncut.2.1 mX0_uncut.2.2.1 mX0_uncut.2.2.2 ∈ ax_U ∧ (mX0_uncut.1.cls ≠ "java/lang/invoke/MethodHandle" ∧ mX0_uncut.1.cls ≠ "java/lang/invoke/VarHandle" ∧ (parseMethodDescriptor mX0_uncut.1.desc).map (fun d => d.parameters.length) = some 0) ∧ mX0_uncut.2.2.1 ≤ 40 := ⟨ax_in 6 (by decide +kernel) rfl, ax_in 601 (by decide +kernel) rfl, ⟨by decide +kernel, by decide +kernel, by decide +kernel⟩, by decide⟩
theorem ci_X0_uncut : Cond.instanceMethod mX0_uncut.1 ∈ ax_U := ax_in 599 (by decide +kernel) rfl
theorem ce_X0_uncut : Cond.selects mX0_uncut.1.cls mX0_uncut.1 mX0_uncut.1 ∈ ax_U := ax_in 600 (by decide +kernel) rfl
theorem cm_X0_live : Cond.initialized mX0_live.1.cls ∈ ax_U ∧ Cond.code mX0_live.1 mX0_live.2.1 mX0_live.2.2.1 mX0_live.2.2.2 ∈ ax_U ∧ (mX0_live.1.cls ≠ "java/lang/invoke/MethodHandle" ∧ mX0_live.1.cls ≠ "java/lang/invoke/VarHandle" ∧ (parseMethodDescriptor mX0_live.1.desc).map (fun d => d.parameters.length) = some 0) ∧ mX0_live.2.2.1 ≤ 40 := ⟨ax_in 6 (by decide +kernel) rfl, ax_in 597 (by decide +kernel) rfl, ⟨by decide +kernel, by decide +kernel, by decide +kernel⟩, by decide⟩
theorem ci_X0_live : Cond.instanceMethod mX0_live.1 ∈ ax_U := ax_in 595 (by decide +kernel) rfl
theorem ce_X0_live : Cond.selects mX0_live.1.cls mX0_live.1 mX0_live.1 ∈ ax_U := ax_in 596 (by decide +kernel) rfl
theorem cm_X0_touching : Cond.initialized mX0_touching.1.cls ∈ ax_U ∧ Cond.code mX0_touching.1 mX0_touching.2.1 mX0_touching.2.2.1 mX0_touching.2.2.2 ∈ ax_U ∧ (mX0_touching.1.cls ≠ "java/lang/invoke/MethodHandle" ∧ mX0_touching.1.cls ≠ "java/lang/invoke/VarHandle" ∧ (parseMethodDescriptor mX0_touching.1.desc).map (fun d => d.parameters.length) = some 2) ∧ mX0_touching.2.2.1 ≤ 40 := ⟨ax_in 6 (by decide +kernel) rfl, ax_in 677 (by decide +kernel) rfl, ⟨by decide +kernel, by decide +kernel, by decide +kernel⟩, by decide⟩
theorem ci_X0_touching : Cond.instanceMethod mX0_touching.1 ∈ ax_U := ax_in 675 (by decide +kernel) rfl
theorem ce_X0_touching : Cond.selects mX0_touching.1.cls mX0_touching.1 mX0_touching.1 ∈ ax_U := ax_in 676 (by decide +kernel) rfl
theorem cm_X0_touchAnew : Cond.initialized mX0_touchAnew.1.cls ∈ ax_U ∧ Cond.code mX0_touchAnew.1 mX0_touchAnew.2.1 mX0_touchAnew.2.2.1 mX0_touchAnew.2.2.2 ∈ ax_U ∧ (mX0_touchAnew.1.cls ≠ "java/lang/invoke/MethodHandle" ∧ mX0_touchAnew.1.cls ≠ "java/lang/invoke/VarHandle" ∧ (parseMethodDescriptor mX0_touchAnew.1.desc).map (fun d => d.parameters.length) = some 0) ∧ mX0_touchAnew.2.2.1 ≤ 40 := ⟨ax_in 6 (by decide +kernel) rfl, ax_in 569 (by decide +kernel) rfl, ⟨by decide +kernel, by decide +kernel, by decide +kernel⟩, by decide⟩
theorem ci_X0_touchAnew : Cond.instanceMethod mX0_touchAnew.1 ∈ ax_U := ax_in 568 (by decide +kernel) rfl
theorem ce_X0_touchAnew : Cond.selects mX0_touchAnew.1.cls mX0_touchAnew.1 mX0_touchAnew.1 ∈ ax_U := ax_inp (n := 15) 20 (by decide +kernel) rfl
theorem cm_X0_reach : Cond.initialized mX0_reach.1.cls ∈ ax_U ∧ Cond.code mX0_reach.1 mX0_reach.2.1 mX0_reach.2.2.1 mX0_reach.2.2.2 ∈ ax_U ∧ (mX0_reach.1.cls ≠ "java/lang/invoke/MethodHandle" ∧ mX0_reach.1.cls ≠ "java/lang/invoke/VarHandle" ∧ (parseMethodDescriptor mX0_reach.1.desc).map (fun d => d.parameters.length) = some 2) ∧ mX0_reach.2.2.1 ≤ 40 := ⟨ax_in 6 (by decide +kernel) rfl, ax_in 954 (by decide +kernel) rfl, ⟨by decide +kernel, by decide +kernel, by decide +kernel⟩, by decide⟩
theorem ci_X0_reach : Cond.instanceMethod mX0_reach.1 ∈ ax_U := ax_in 952 (by decide +kernel) rfl
theorem ce_X0_reach : Cond.selects mX0_reach.1.cls mX0_reach.1 mX0_reach.1 ∈ ax_U := ax_in 953 (by decide +kernel) rfl
theorem cm_X0_mayJoin : Cond.initialized mX0_mayJoin.1.cls ∈ ax_U ∧ Cond.code mX0_mayJoin.1 mX0_mayJoin.2.1 mX0_mayJoin.2.2.1 mX0_mayJoin.2.2.2 ∈ ax_U ∧ (mX0_mayJoin.1.cls ≠ "java/lang/invoke/MethodHandle" ∧ mX0_mayJoin.1.cls ≠ "java/lang/invoke/VarHandle" ∧ (parseMethodDescriptor mX0_mayJoin.1.desc).map (fun d => d.parameters.length) = some 2) ∧ mX0_mayJoin.2.2.1 ≤ 40 := ⟨ax_in 6 (by decide +kernel) rfl, ax_in 740 (by decide +kernel) rfl, ⟨by decide +kernel, by decide +kernel, by decide +kernel⟩, by decide⟩
theorem ci_X0_mayJoin : Cond.instanceMethod mX0_mayJoin.1 ∈ ax_U := ax_in 738 (by decide +kernel) rfl
theorem ce_X0_mayJoin : Cond.selects mX0_mayJoin.1.cls mX0_mayJoin.1 mX0_mayJoin.1 ∈ ax_U := ax_in 739 (by decide +kernel) rfl
theorem cm_X0_apart : Cond.initialized mX0_apart.1.cls ∈ ax_U ∧ Cond.code mX0_apart.1 mX0_apart.2.1 mX0_apart.2.2.1 mX0_apart.2.2.2 ∈ ax_U ∧ (mX0_apart.1.cls ≠ "java/lang/invoke/MethodHandle" ∧ mX0_apart.1.cls ≠ "java/lang/invoke/VarHandle" ∧ (parseMethodDescriptor mX0_apart.1.desc).map (fun d => d.parameters.length) = some 2) ∧ mX0_apart.2.2.1 ≤ 40 := ⟨ax_in 6 (by decide +kernel) rfl, ax_in 749 (by decide +kernel) rfl, ⟨by decide +kernel, by decide +kernel, by decide +kernel⟩, by decide⟩
theorem ci_X0_apart : Cond.instanceMethod mX0_apart.1 ∈ ax_U := ax_in 747 (by decide +kernel) rfl
theorem ce_X0_apart : Cond.selects mX0_apart.1.cls mX0_apart.1 mX0_apart.1 ∈ ax_U := ax_in 748 (by decide +kernel) rfl
theorem cm_X0_price : Cond.initialized mX0_price.1.cls ∈ ax_U ∧ Cond.code mX0_price.1 mX0_price.2.1 mX0_price.2.2.1 mX0_price.2.2.2 ∈ ax_U ∧ (mX0_price.1.cls ≠ "java/lang/invoke/MethodHandle" ∧ mX0_price.1.cls ≠ "java/lang/invoke/VarHandle" ∧ (parseMethodDescriptor mX0_price.1.desc).map (fun d => d.parameters.length) = some 2) ∧ mX0_price.2.2.1 ≤ 40 := ⟨ax_in 6 (by decide +kernel) rfl, ax_in 745 (by decide +kernel) rfl, ⟨by decide +kernel, by decide +kernel, by decide +kernel⟩, by decide⟩
theorem ci_X0_price : Cond.instanceMethod mX0_price.1 ∈ ax_U := ax_in 743 (by decide +kernel) rfl
theorem ce_X0_price : Cond.selects mX0_price.1.cls mX0_price.1 mX0_price.1 ∈ ax_U := ax_in 744 (by decide +kernel) rfl
theorem cm_X0_think : Cond.initialized mX0_think.1.cls ∈ ax_U ∧ Cond.code mX0_think.1 mX0_think.2.1 mX0_think.2.2.1 mX0_think.2.2.2 ∈ ax_U ∧ (mX0_think.1.cls ≠ "java/lang/invoke/MethodHandle" ∧ mX0_think.1.cls ≠ "java/lang/invoke/VarHandle" ∧ (parseMethodDescriptor mX0_think.1.desc).map (fun d => d.parameters.length) = some 2) ∧ mX0_think.2.2.1 ≤ 40 := ⟨ax_in 6 (by decide +kernel) rfl, ax_in 756 (by decide +kernel) rfl, ⟨by decide +kernel, by decide +kernel, by decide +kernel⟩, by decide⟩
theorem ci_X0_think : Cond.instanceMethod mX0_think.1 ∈ ax_U := ax_in 754 (by decide +kernel) rfl
theorem ce_X0_think : Cond.selects mX0_think.1.cls mX0_think.1 mX0_think.1 ∈ ax_U := ax_in 755 (by decide +kernel) rfl
theorem cm_X0_addCopper : Cond.initialized mX0_addCopper.1.cls ∈ ax_U ∧ Cond.code mX0_addCopper.1 mX0_addCopper.2.1 mX0_addCopper.2.2.1 mX0_addCopper.2.2.2 ∈ ax_U ∧ (mX0_addCopper.1.cls ≠ "java/lang/invoke/MethodHandle" ∧ mX0_addCopper.1.cls ≠ "java/lang/invoke/VarHandle" ∧ (parseMethodDescriptor mX0_addCopper.1.desc).map (fun d => d.parameters.length) = some 1) ∧ mX0_addCopper.2.2.1 ≤ 40 := ⟨ax_in 6 (by decide +kernel) rfl, ax_in 764 (by decide +kernel) rfl, ⟨by decide +kernel, by decide +kernel, by decide +kernel⟩, by decide⟩
theorem ci_X0_addCopper : Cond.instanceMethod mX0_addCopper.1 ∈ ax_U := ax_in 762 (by decide +kernel) rfl
theorem ce_X0_addCopper : Cond.selects mX0_addCopper.1.cls mX0_addCopper.1 mX0_addCopper.1 ∈ ax_U := ax_in 763 (by decide +kernel) rfl
theorem cm_X0_bearsEarthed : Cond.initialized mX0_bearsEarthed.1.cls ∈ ax_U ∧ Cond.code mX0_bearsEarthed.1 mX0_bearsEarthed.2.1 mX0_bearsEarthed.2.2.1 mX0_bearsEarthed.2.2.2 ∈ ax_U ∧ (mX0_bearsEarthed.1.cls ≠ "java/lang/invoke/MethodHandle" ∧ mX0_bearsEarthed.1.cls ≠ "java/lang/invoke/VarHandle" ∧ (parseMethodDescriptor mX0_bearsEarthed.1.desc).map (fun d => d.parameters.length) = some 1) ∧ mX0_bearsEarthed.2.2.1 ≤ 40 := ⟨ax_in 6 (by decide +kernel) rfl, ax_in 776 (by decide +kernel) rfl, ⟨by decide +kernel, by decide +kernel, by decide +kernel⟩, by decide⟩
theorem ci_X0_bearsEarthed : Cond.instanceMethod mX0_bearsEarthed.1 ∈ ax_U := ax_in 774 (by decide +kernel) rfl
theorem ce_X0_bearsEarthed : Cond.selects mX0_bearsEarthed.1.cls mX0_bearsEarthed.1 mX0_bearsEarthed.1 ∈ ax_U := ax_in 775 (by decide +kernel) rfl
theorem cm_X0_scorch : Cond.initialized mX0_scorch.1.cls ∈ ax_U ∧ Cond.code mX0_scorch.1 mX0_scorch.2.1 mX0_scorch.2.2.1 mX0_scorch.2.2.2 ∈ ax_U ∧ (mX0_scorch.1.cls ≠ "java/lang/invoke/MethodHandle" ∧ mX0_scorch.1.cls ≠ "java/lang/invoke/VarHandle" ∧ (parseMethodDescriptor mX0_scorch.1.desc).map (fun d => d.parameters.length) = some 1) ∧ mX0_scorch.2.2.1 ≤ 40 := ⟨ax_in 6 (by decide +kernel) rfl, ax_in 722 (by decide +kernel) rfl, ⟨by decide +kernel, by decide +kernel, by decide +kernel⟩, by decide⟩
theorem ci_X0_scorch : Cond.instanceMethod mX0_scorch.1 ∈ ax_U := ax_in 720 (by decide +kernel) rfl
theorem ce_X0_scorch : Cond.selects mX0_scorch.1.cls mX0_scorch.1 mX0_scorch.1 ∈ ax_U := ax_in 721 (by decide +kernel) rfl
theorem cm_X0_passSummer : Cond.initialized mX0_passSummer.1.cls ∈ ax_U ∧ Cond.code mX0_passSummer.1 mX0_passSummer.2.1 mX0_passSummer.2.2.1 mX0_passSummer.2.2.2 ∈ ax_U ∧ (mX0_passSummer.1.cls ≠ "java/lang/invoke/MethodHandle" ∧ mX0_passSummer.1.cls ≠ "java/lang/invoke/VarHandle" ∧ (parseMethodDescriptor mX0_passSummer.1.desc).map (fun d => d.parameters.length) = some 0) ∧ mX0_passSummer.2.2.1 ≤ 40 := ⟨ax_in 6 (by decide +kernel) rfl, ax_in 792 (by decide +kernel) rfl, ⟨by decide +kernel, by decide +kernel, by decide +kernel⟩, by decide⟩
theorem ci_X0_passSummer : Cond.instanceMethod mX0_passSummer.1 ∈ ax_U := ax_in 790 (by decide +kernel) rfl
theorem ce_X0_passSummer : Cond.selects mX0_passSummer.1.cls mX0_passSummer.1 mX0_passSummer.1 ∈ ax_U := ax_in 791 (by decide +kernel) rfl
theorem cm_X0_heights : Cond.initialized mX0_heights.1.cls ∈ ax_U ∧ Cond.code mX0_heights.1 mX0_heights.2.1 mX0_heights.2.2.1 mX0_heights.2.2.2 ∈ ax_U ∧ (mX0_heights.1.cls ≠ "java/lang/invoke/MethodHandle" ∧ mX0_heights.1.cls ≠ "java/lang/invoke/VarHandle" ∧ (parseMethodDescriptor mX0_heights.1.desc).map (fun d => d.parameters.length) = some 0) ∧ mX0_heights.2.2.1 ≤ 40 := ⟨ax_in 6 (by decide +kernel) rfl, ax_in 815 (by decide +kernel) rfl, ⟨by decide +kernel, by decide +kernel, by decide +kernel⟩, by decide⟩
theorem ci_X0_heights : Cond.instanceMethod mX0_heights.1 ∈ ax_U := ax_in 813 (by decide +kernel) rfl
theorem ce_X0_heights : Cond.selects mX0_heights.1.cls mX0_heights.1 mX0_heights.1 ∈ ax_U := ax_in 814 (by decide +kernel) rfl
theorem cm_X0_leastBorne : Cond.initialized mX0_leastBorne.1.cls ∈ ax_U ∧ Cond.code mX0_leastBorne.1 mX0_leastBorne.2.1 mX0_leastBorne.2.2.1 mX0_leastBorne.2.2.2 ∈ ax_U ∧ (mX0_leastBorne.1.cls ≠ "java/lang/invoke/MethodHandle" ∧ mX0_leastBorne.1.cls ≠ "java/lang/invoke/VarHandle" ∧ (parseMethodDescriptor mX0_leastBorne.1.desc).map (fun d => d.parameters.length) = some 0) ∧ mX0_leastBorne.2.2.1 ≤ 40 := ⟨ax_in 6 (by decide +kernel) rfl, ax_in 899 (by decide +kernel) rfl, ⟨by decide +kernel, by decide +kernel, by decide +kernel⟩, by decide⟩
theorem ci_X0_leastBorne : Cond.instanceMethod mX0_leastBorne.1 ∈ ax_U := ax_in 897 (by decide +kernel) rfl
theorem ce_X0_leastBorne : Cond.selects mX0_leastBorne.1.cls mX0_leastBorne.1 mX0_leastBorne.1 ∈ ax_U := ax_in 898 (by decide +kernel) rfl
theorem cm_X0_highest : Cond.initialized mX0_highest.1.cls ∈ ax_U ∧ Cond.code mX0_highest.1 mX0_highest.2.1 mX0_highest.2.2.1 mX0_highest.2.2.2 ∈ ax_U ∧ (mX0_highest.1.cls ≠ "java/lang/invoke/MethodHandle" ∧ mX0_highest.1.cls ≠ "java/lang/invoke/VarHandle" ∧ (parseMethodDescriptor mX0_highest.1.desc).map (fun d => d.parameters.length) = some 1) ∧ mX0_highest.2.2.1 ≤ 40 := ⟨ax_in 6 (by decide +kernel) rfl, ax_in 979 (by decide +kernel) rfl, ⟨by decide +kernel, by decide +kernel, by decide +kernel⟩, by decide⟩
theorem ci_X0_highest : Cond.instanceMethod mX0_highest.1 ∈ ax_U := ax_in 977 (by decide +kernel) rfl
theorem ce_X0_highest : Cond.selects mX0_highest.1.cls mX0_highest.1 mX0_highest.1 ∈ ax_U := ax_in 978 (by decide +kernel) rfl
theorem cm_X0_saltiest : Cond.initialized mX0_saltiest.1.cls ∈ ax_U ∧ Cond.code mX0_saltiest.1 mX0_saltiest.2.1 mX0_saltiest.2.2.1 mX0_saltiest.2.2.2 ∈ ax_U ∧ (mX0_saltiest.1.cls ≠ "java/lang/invoke/MethodHandle" ∧ mX0_saltiest.1.cls ≠ "java/lang/invoke/VarHandle" ∧ (parseMethodDescriptor mX0_saltiest.1.desc).map (fun d => d.parameters.length) = some 1) ∧ mX0_saltiest.2.2.1 ≤ 40 := ⟨ax_in 6 (by decide +kernel) rfl, ax_in 983 (by decide +kernel) rfl, ⟨by decide +kernel, by decide +kernel, by decide +kernel⟩, by decide⟩
theorem ci_X0_saltiest : Cond.instanceMethod mX0_saltiest.1 ∈ ax_U := ax_in 981 (by decide +kernel) rfl
theorem ce_X0_saltiest : Cond.selects mX0_saltiest.1.cls mX0_saltiest.1 mX0_saltiest.1 ∈ ax_U := ax_in 982 (by decide +kernel) rfl
theorem cm_X1_reads : Cond.initialized mX1_reads.1.cls ∈ ax_U ∧ Cond.code mX1_reads.1 mX1_reads.2.1 mX1_reads.2.2.1 mX1_reads.2.2.2 ∈ ax_U ∧ (mX1_reads.1.cls ≠ "java/lang/invoke/MethodHandle" ∧ mX1_reads.1.cls ≠ "java/lang/invoke/VarHandle" ∧ (parseMethodDescriptor mX1_reads.1.desc).map (fun d => d.parameters.length) = some 0) ∧ mX1_reads.2.2.1 ≤ 40 := ⟨ax_in 3 (by decide +kernel) rfl, ax_in 441 (by decide +kernel) rfl, ⟨by decide +kernel, by decide +kernel, by decide +kernel⟩, by decide⟩
theorem ci_X1_reads : Cond.instanceMethod mX1_reads.1 ∈ ax_U := ax_in 439 (by decide +kernel) rfl
theorem ce_X1_reads : Cond.selects mX1_reads.1.cls mX1_reads.1 mX1_reads.1 ∈ ax_U := ax_in 440 (by decide +kernel) rfl
theorem cm_X1_readsClause : Cond.initialized mX1_readsClause.1.cls ∈ ax_U ∧ Cond.code mX1_readsClause.1 mX1_readsClause.2.1 mX1_readsClause.2.2.1 mX1_readsClause.2.2.2 ∈ ax_U ∧ (mX1_readsClause.1.cls ≠ "java/lang/invoke/MethodHandle" ∧ mX1_readsClause.1.cls ≠ "java/lang/invoke/VarHandle" ∧ (parseMethodDescriptor mX1_readsClause.1.desc).map (fun d => d.parameters.length) = some 0) ∧ mX1_readsClause.2.2.1 ≤ 40 := ⟨ax_in 3 (by decide +kernel) rfl, ax_in 451 (by decide +kernel) rfl, ⟨by decide +kernel, by decide +kernel, by decide +kernel⟩, by decide⟩
theorem ci_X1_readsClause : Cond.instanceMethod mX1_readsClause.1 ∈ ax_U := ax_in 450 (by decide +kernel) rfl
theorem ce_X1_readsClause : Cond.selects mX1_readsClause.1.cls mX1_readsClause.1 mX1_readsClause.1 ∈ ax_U := ax_inp (n := 7) 2 (by decide +kernel) rfl
theorem cm_X1_setWithout : Cond.initialized mX1_setWithout.1.cls ∈ ax_U ∧ Cond.code mX1_setWithout.1 mX1_setWithout.2.1 mX1_setWithout.2.2.1 mX1_setWithout.2.2.2 ∈ ax_U ∧ (mX1_setWithout.1.cls ≠ "java/lang/invoke/MethodHandle" ∧ mX1_setWithout.1.cls ≠ "java/lang/invoke/VarHandle" ∧ (parseMethodDescriptor mX1_setWithout.1.desc).map (fun d => d.parameters.length) = some 4) ∧ mX1_setWithout.2.2.1 ≤ 40 := ⟨ax_in 3 (by decide +kernel) rfl, ax_in 445 (by decide +kernel) rfl, ⟨by decide +kernel, by decide +kernel, by decide +kernel⟩, by decide⟩
theorem ci_X1_setWithout : Cond.instanceMethod mX1_setWithout.1 ∈ ax_U := ax_in 444 (by decide +kernel) rfl
theorem ce_X1_setWithout : Cond.selects mX1_setWithout.1.cls mX1_setWithout.1 mX1_setWithout.1 ∈ ax_U := ax_inp (n := 7) 1 (by decide +kernel) rfl
theorem cm_X1_readsItems : Cond.initialized mX1_readsItems.1.cls ∈ ax_U ∧ Cond.code mX1_readsItems.1 mX1_readsItems.2.1 mX1_readsItems.2.2.1 mX1_readsItems.2.2.2 ∈ ax_U ∧ (mX1_readsItems.1.cls ≠ "java/lang/invoke/MethodHandle" ∧ mX1_readsItems.1.cls ≠ "java/lang/invoke/VarHandle" ∧ (parseMethodDescriptor mX1_readsItems.1.desc).map (fun d => d.parameters.length) = some 4) ∧ mX1_readsItems.2.2.1 ≤ 40 := ⟨ax_in 3 (by decide +kernel) rfl, ax_in 459 (by decide +kernel) rfl, ⟨by decide +kernel, by decide +kernel, by decide +kernel⟩, by decide⟩
theorem ci_X1_readsItems : Cond.instanceMethod mX1_readsItems.1 ∈ ax_U := ax_in 458 (by decide +kernel) rfl
theorem ce_X1_readsItems : Cond.selects mX1_readsItems.1.cls mX1_readsItems.1 mX1_readsItems.1 ∈ ax_U := ax_inp (n := 7) 3 (by decide +kernel) rfl
theorem cm_X1_itemAt : Cond.initialized mX1_itemAt.1.cls ∈ ax_U ∧ Cond.code mX1_itemAt.1 mX1_itemAt.2.1 mX1_itemAt.2.2.1 mX1_itemAt.2.2.2 ∈ ax_U ∧ (mX1_itemAt.1.cls ≠ "java/lang/invoke/MethodHandle" ∧ mX1_itemAt.1.cls ≠ "java/lang/invoke/VarHandle" ∧ (parseMethodDescriptor mX1_itemAt.1.desc).map (fun d => d.parameters.length) = some 2) ∧ mX1_itemAt.2.2.1 ≤ 40 := ⟨ax_in 3 (by decide +kernel) rfl, ax_in 463 (by decide +kernel) rfl, ⟨by decide +kernel, by decide +kernel, by decide +kernel⟩, by decide⟩
theorem ci_X1_itemAt : Cond.instanceMethod mX1_itemAt.1 ∈ ax_U := ax_in 462 (by decide +kernel) rfl
theorem ce_X1_itemAt : Cond.selects mX1_itemAt.1.cls mX1_itemAt.1 mX1_itemAt.1 ∈ ax_U := ax_inp (n := 7) 4 (by decide +kernel) rfl
theorem cm_X1_readsNumberOf : Cond.initialized mX1_readsNumberOf.1.cls ∈ ax_U ∧ Cond.code mX1_readsNumberOf.1 mX1_readsNumberOf.2.1 mX1_readsNumberOf.2.2.1 mX1_readsNumberOf.2.2.2 ∈ ax_U ∧ (mX1_readsNumberOf.1.cls ≠ "java/lang/invoke/MethodHandle" ∧ mX1_readsNumberOf.1.cls ≠ "java/lang/invoke/VarHandle" ∧ (parseMethodDescriptor mX1_readsNumberOf.1.desc).map (fun d => d.parameters.length) = some 1) ∧ mX1_readsNumberOf.2.2.1 ≤ 40 := ⟨ax_in 3 (by decide +kernel) rfl, ax_in 472 (by decide +kernel) rfl, ⟨by decide +kernel, by decide +kernel, by decide +kernel⟩, by decide⟩
theorem ci_X1_readsNumberOf : Cond.instanceMethod mX1_readsNumberOf.1 ∈ ax_U := ax_in 471 (by decide +kernel) rfl
theorem ce_X1_readsNumberOf : Cond.selects mX1_readsNumberOf.1.cls mX1_readsNumberOf.1 mX1_readsNumberOf.1 ∈ ax_U := ax_inp (n := 7) 5 (by decide +kernel) rfl
theorem cm_X1_isWhole : Cond.initialized mX1_isWhole.1.cls ∈ ax_U ∧ Cond.code mX1_isWhole.1 mX1_isWhole.2.1 mX1_isWhole.2.2.1 mX1_isWhole.2.2.2 ∈ ax_U ∧ (mX1_isWhole.1.cls ≠ "java/lang/invoke/MethodHandle" ∧ mX1_isWhole.1.cls ≠ "java/lang/invoke/VarHandle" ∧ (parseMethodDescriptor mX1_isWhole.1.desc).map (fun d => d.parameters.length) = some 0) ∧ mX1_isWhole.2.2.1 ≤ 40 := ⟨ax_in 3 (by decide +kernel) rfl, ax_in 493 (by decide +kernel) rfl, ⟨by decide +kernel, by decide +kernel, by decide +kernel⟩, by decide⟩
theorem ci_X1_isWhole : Cond.instanceMethod mX1_isWhole.1 ∈ ax_U := ax_in 492 (by decide +kernel) rfl
theorem ce_X1_isWhole : Cond.selects mX1_isWhole.1.cls mX1_isWhole.1 mX1_isWhole.1 ∈ ax_U := ax_inp (n := 7) 7 (by decide +kernel) rfl
theorem cm_X1_isWireSound : Cond.initialized mX1_isWireSound.1.cls ∈ ax_U ∧ Cond.code mX1_isWireSound.1 mX1_isWireSound.2.1 mX1_isWireSound.2.2.1 mX1_isWireSound.2.2.2 ∈ ax_U ∧ (mX1_isWireSound.1.cls ≠ "java/lang/invoke/MethodHandle" ∧ mX1_isWireSound.1.cls ≠ "java/lang/invoke/VarHandle" ∧ (parseMethodDescriptor mX1_isWireSound.1.desc).map (fun d => d.parameters.length) = some 1) ∧ mX1_isWireSound.2.2.1 ≤ 40 := ⟨ax_in 3 (by decide +kernel) rfl, ax_in 497 (by decide +kernel) rfl, ⟨by decide +kernel, by decide +kernel, by decide +kernel⟩, by decide⟩
theorem ci_X1_isWireSound : Cond.instanceMethod mX1_isWireSound.1 ∈ ax_U := ax_in 496 (by decide +kernel) rfl
theorem ce_X1_isWireSound : Cond.selects mX1_isWireSound.1.cls mX1_isWireSound.1 mX1_isWireSound.1 ∈ ax_U := ax_inp (n := 7) 8 (by decide +kernel) rfl
theorem cm_X1_isChapel : Cond.initialized mX1_isChapel.1.cls ∈ ax_U ∧ Cond.code mX1_isChapel.1 mX1_isChapel.2.1 mX1_isChapel.2.2.1 mX1_isChapel.2.2.2 ∈ ax_U ∧ (mX1_isChapel.1.cls ≠ "java/lang/invoke/MethodHandle" ∧ mX1_isChapel.1.cls ≠ "java/lang/invoke/VarHandle" ∧ (parseMethodDescriptor mX1_isChapel.1.desc).map (fun d => d.parameters.length) = some 1) ∧ mX1_isChapel.2.2.1 ≤ 40 := ⟨ax_in 3 (by decide +kernel) rfl, ax_in 501 (by decide +kernel) rfl, ⟨by decide +kernel, by decide +kernel, by decide +kernel⟩, by decide⟩
theorem ci_X1_isChapel : Cond.instanceMethod mX1_isChapel.1 ∈ ax_U := ax_in 500 (by decide +kernel) rfl
theorem ce_X1_isChapel : Cond.selects mX1_isChapel.1.cls mX1_isChapel.1 mX1_isChapel.1 ∈ ax_U := ax_inp (n := 7) 9 (by decide +kernel) rfl
theorem cm_X2_clear : Cond.initialized mX2_clear.1.cls ∈ ax_U ∧ Cond.code mX2_clear.1 mX2_clear.2.1 mX2_clear.2.2.1 mX2_clear.2.2.2 ∈ ax_U ∧ (mX2_clear.1.cls ≠ "java/lang/invoke/MethodHandle" ∧ mX2_clear.1.cls ≠ "java/lang/invoke/VarHandle" ∧ (parseMethodDescriptor mX2_clear.1.desc).map (fun d => d.parameters.length) = some 0) ∧ mX2_clear.2.2.1 ≤ 40 := ⟨ax_in 9 (by decide +kernel) rfl, ax_in 580 (by decide +kernel) rfl, ⟨by decide +kernel, by decide +kernel, by decide +kernel⟩, by decide⟩
theorem ci_X2_clear : Cond.instanceMethod mX2_clear.1 ∈ ax_U := ax_in 578 (by decide +kernel) rfl
theorem ce_X2_clear : Cond.selects mX2_clear.1.cls mX2_clear.1 mX2_clear.1 ∈ ax_U := ax_in 579 (by decide +kernel) rfl
theorem cm_X2_length : Cond.initialized mX2_length.1.cls ∈ ax_U ∧ Cond.code mX2_length.1 mX2_length.2.1 mX2_length.2.2.1 mX2_length.2.2.2 ∈ ax_U ∧ (mX2_length.1.cls ≠ "java/lang/invoke/MethodHandle" ∧ mX2_length.1.cls ≠ "java/lang/invoke/VarHandle" ∧ (parseMethodDescriptor mX2_length.1.desc).map (fun d => d.parameters.length) = some 0) ∧ mX2_length.2.2.1 ≤ 40 := ⟨ax_in 9 (by decide +kernel) rfl, ax_in 617 (by decide +kernel) rfl, ⟨by decide +kernel, by decide +kernel, by decide +kernel⟩, by decide⟩
theorem ci_X2_length : Cond.instanceMethod mX2_length.1 ∈ ax_U := ax_in 615 (by decide +kernel) rfl
theorem ce_X2_length : Cond.selects mX2_length.1.cls mX2_length.1 mX2_length.1 ∈ ax_U := ax_in 616 (by decide +kernel) rfl
theorem cm_X2_add : Cond.initialized mX2_add.1.cls ∈ ax_U ∧ Cond.code mX2_add.1 mX2_add.2.1 mX2_add.2.2.1 mX2_add.2.2.2 ∈ ax_U ∧ (mX2_add.1.cls ≠ "java/lang/invoke/MethodHandle" ∧ mX2_add.1.cls ≠ "java/lang/invoke/VarHandle" ∧ (parseMethodDescriptor mX2_add.1.desc).map (fun d => d.parameters.length) = some 3) ∧ mX2_add.2.2.1 ≤ 40 := ⟨ax_in 9 (by decide +kernel) rfl, ax_in 728 (by decide +kernel) rfl, ⟨by decide +kernel, by decide +kernel, by decide +kernel⟩, by decide⟩
theorem ci_X2_add : Cond.instanceMethod mX2_add.1 ∈ ax_U := ax_in 726 (by decide +kernel) rfl
theorem ce_X2_add : Cond.selects mX2_add.1.cls mX2_add.1 mX2_add.1 ∈ ax_U := ax_in 727 (by decide +kernel) rfl
theorem cm_X2_tells : Cond.initialized mX2_tells.1.cls ∈ ax_U ∧ Cond.code mX2_tells.1 mX2_tells.2.1 mX2_tells.2.2.1 mX2_tells.2.2.2 ∈ ax_U ∧ (mX2_tells.1.cls ≠ "java/lang/invoke/MethodHandle" ∧ mX2_tells.1.cls ≠ "java/lang/invoke/VarHandle" ∧ (parseMethodDescriptor mX2_tells.1.desc).map (fun d => d.parameters.length) = some 2) ∧ mX2_tells.2.2.1 ≤ 40 := ⟨ax_in 9 (by decide +kernel) rfl, ax_in 613 (by decide +kernel) rfl, ⟨by decide +kernel, by decide +kernel, by decide +kernel⟩, by decide⟩
theorem ci_X2_tells : Cond.instanceMethod mX2_tells.1 ∈ ax_U := ax_in 611 (by decide +kernel) rfl
theorem ce_X2_tells : Cond.selects mX2_tells.1.cls mX2_tells.1 mX2_tells.1 ∈ ax_U := ax_in 612 (by decide +kernel) rfl
theorem cm_X2_keep : Cond.initialized mX2_keep.1.cls ∈ ax_U ∧ Cond.code mX2_keep.1 mX2_keep.2.1 mX2_keep.2.2.1 mX2_keep.2.2.2 ∈ ax_U ∧ (mX2_keep.1.cls ≠ "java/lang/invoke/MethodHandle" ∧ mX2_keep.1.cls ≠ "java/lang/invoke/VarHandle" ∧ (parseMethodDescriptor mX2_keep.1.desc).map (fun d => d.parameters.length) = some 0) ∧ mX2_keep.2.2.1 ≤ 40 := ⟨ax_in 9 (by decide +kernel) rfl, ax_in 836 (by decide +kernel) rfl, ⟨by decide +kernel, by decide +kernel, by decide +kernel⟩, by decide⟩
theorem ci_X2_keep : Cond.instanceMethod mX2_keep.1 ∈ ax_U := ax_in 834 (by decide +kernel) rfl
theorem ce_X2_keep : Cond.selects mX2_keep.1.cls mX2_keep.1 mX2_keep.1 ∈ ax_U := ax_in 835 (by decide +kernel) rfl
theorem cm_X2_giveBack : Cond.initialized mX2_giveBack.1.cls ∈ ax_U ∧ Cond.code mX2_giveBack.1 mX2_giveBack.2.1 mX2_giveBack.2.2.1 mX2_giveBack.2.2.2 ∈ ax_U ∧ (mX2_giveBack.1.cls ≠ "java/lang/invoke/MethodHandle" ∧ mX2_giveBack.1.cls ≠ "java/lang/invoke/VarHandle" ∧ (parseMethodDescriptor mX2_giveBack.1.desc).map (fun d => d.parameters.length) = some 0) ∧ mX2_giveBack.2.2.1 ≤ 40 := ⟨ax_in 9 (by decide +kernel) rfl, ax_in 846 (by decide +kernel) rfl, ⟨by decide +kernel, by decide +kernel, by decide +kernel⟩, by decide⟩
theorem ci_X2_giveBack : Cond.instanceMethod mX2_giveBack.1 ∈ ax_U := ax_in 844 (by decide +kernel) rfl
theorem ce_X2_giveBack : Cond.selects mX2_giveBack.1.cls mX2_giveBack.1 mX2_giveBack.1 ∈ ax_U := ax_in 845 (by decide +kernel) rfl
theorem cm_X3_add : Cond.initialized mX3_add.1.cls ∈ ax_U ∧ Cond.code mX3_add.1 mX3_add.2.1 mX3_add.2.2.1 mX3_add.2.2.2 ∈ ax_U ∧ (mX3_add.1.cls ≠ "java/lang/invoke/MethodHandle" ∧ mX3_add.1.cls ≠ "java/lang/invoke/VarHandle" ∧ (parseMethodDescriptor mX3_add.1.desc).map (fun d => d.parameters.length) = some 4) ∧ mX3_add.2.2.1 ≤ 40 := ⟨ax_in 10 (by decide +kernel) rfl, ax_in 1024 (by decide +kernel) rfl, ⟨by decide +kernel, by decide +kernel, by decide +kernel⟩, by decide⟩
theorem ci_X3_add : Cond.instanceMethod mX3_add.1 ∈ ax_U := ax_in 1022 (by decide +kernel) rfl
theorem ce_X3_add : Cond.selects mX3_add.1.cls mX3_add.1 mX3_add.1 ∈ ax_U := ax_in 1023 (by decide +kernel) rfl
theorem cm_X4_seek : Cond.initialized mX4_seek.1.cls ∈ ax_U ∧ Cond.code mX4_seek.1 mX4_seek.2.1 mX4_seek.2.2.1 mX4_seek.2.2.2 ∈ ax_U ∧ (mX4_seek.1.cls ≠ "java/lang/invoke/MethodHandle" ∧ mX4_seek.1.cls ≠ "java/lang/invoke/VarHandle" ∧ (parseMethodDescriptor mX4_seek.1.desc).map (fun d => d.parameters.length) = some 0) ∧ mX4_seek.2.2.1 ≤ 40 := ⟨ax_in 11 (by decide +kernel) rfl, ax_in 931 (by decide +kernel) rfl, ⟨by decide +kernel, by decide +kernel, by decide +kernel⟩, by decide⟩
theorem ci_X4_seek : Cond.instanceMethod mX4_seek.1 ∈ ax_U := ax_in 929 (by decide +kernel) rfl
theorem ce_X4_seek : Cond.selects mX4_seek.1.cls mX4_seek.1 mX4_seek.1 ∈ ax_U := ax_in 930 (by decide +kernel) rfl
theorem cm_X4_pairFrom : Cond.initialized mX4_pairFrom.1.cls ∈ ax_U ∧ Cond.code mX4_pairFrom.1 mX4_pairFrom.2.1 mX4_pairFrom.2.2.1 mX4_pairFrom.2.2.2 ∈ ax_U ∧ (mX4_pairFrom.1.cls ≠ "java/lang/invoke/MethodHandle" ∧ mX4_pairFrom.1.cls ≠ "java/lang/invoke/VarHandle" ∧ (parseMethodDescriptor mX4_pairFrom.1.desc).map (fun d => d.parameters.length) = some 4) ∧ mX4_pairFrom.2.2.1 ≤ 40 := ⟨ax_in 11 (by decide +kernel) rfl, ax_in 935 (by decide +kernel) rfl, ⟨by decide +kernel, by decide +kernel, by decide +kernel⟩, by decide⟩
theorem ci_X4_pairFrom : Cond.instanceMethod mX4_pairFrom.1 ∈ ax_U := ax_in 934 (by decide +kernel) rfl
theorem ce_X4_pairFrom : Cond.selects mX4_pairFrom.1.cls mX4_pairFrom.1 mX4_pairFrom.1 ∈ ax_U := ax_inp (n := 4) 45 (by decide +kernel) rfl
theorem cm_X4_keepLeast : Cond.initialized mX4_keepLeast.1.cls ∈ ax_U ∧ Cond.code mX4_keepLeast.1 mX4_keepLeast.2.1 mX4_keepLeast.2.2.1 mX4_keepLeast.2.2.2 ∈ ax_U ∧ (mX4_keepLeast.1.cls ≠ "java/lang/invoke/MethodHandle" ∧ mX4_keepLeast.1.cls ≠ "java/lang/invoke/VarHandle" ∧ (parseMethodDescriptor mX4_keepLeast.1.desc).map (fun d => d.parameters.length) = some 1) ∧ mX4_keepLeast.2.2.1 ≤ 40 := ⟨ax_in 11 (by decide +kernel) rfl, ax_in 939 (by decide +kernel) rfl, ⟨by decide +kernel, by decide +kernel, by decide +kernel⟩, by decide⟩
theorem ci_X4_keepLeast : Cond.instanceMethod mX4_keepLeast.1 ∈ ax_U := ax_in 938 (by decide +kernel) rfl
theorem ce_X4_keepLeast : Cond.selects mX4_keepLeast.1.cls mX4_keepLeast.1 mX4_keepLeast.1 ∈ ax_U := ax_inp (n := 4) 46 (by decide +kernel) rfl
theorem cm_X5_clear : Cond.initialized mX5_clear.1.cls ∈ ax_U ∧ Cond.code mX5_clear.1 mX5_clear.2.1 mX5_clear.2.2.1 mX5_clear.2.2.2 ∈ ax_U ∧ (mX5_clear.1.cls ≠ "java/lang/invoke/MethodHandle" ∧ mX5_clear.1.cls ≠ "java/lang/invoke/VarHandle" ∧ (parseMethodDescriptor mX5_clear.1.desc).map (fun d => d.parameters.length) = some 0) ∧ mX5_clear.2.2.1 ≤ 40 := ⟨ax_in 8 (by decide +kernel) rfl, ax_in 576 (by decide +kernel) rfl, ⟨by decide +kernel, by decide +kernel, by decide +kernel⟩, by decide⟩
theorem ci_X5_clear : Cond.instanceMethod mX5_clear.1 ∈ ax_U := ax_in 574 (by decide +kernel) rfl
theorem ce_X5_clear : Cond.selects mX5_clear.1.cls mX5_clear.1 mX5_clear.1 ∈ ax_U := ax_in 575 (by decide +kernel) rfl
theorem cm_X5_remember : Cond.initialized mX5_remember.1.cls ∈ ax_U ∧ Cond.code mX5_remember.1 mX5_remember.2.1 mX5_remember.2.2.1 mX5_remember.2.2.2 ∈ ax_U ∧ (mX5_remember.1.cls ≠ "java/lang/invoke/MethodHandle" ∧ mX5_remember.1.cls ≠ "java/lang/invoke/VarHandle" ∧ (parseMethodDescriptor mX5_remember.1.desc).map (fun d => d.parameters.length) = some 2) ∧ mX5_remember.2.2.1 ≤ 40 := ⟨ax_in 8 (by decide +kernel) rfl, ax_in 649 (by decide +kernel) rfl, ⟨by decide +kernel, by decide +kernel, by decide +kernel⟩, by decide⟩
theorem ci_X5_remember : Cond.instanceMethod mX5_remember.1 ∈ ax_U := ax_in 647 (by decide +kernel) rfl
theorem ce_X5_remember : Cond.selects mX5_remember.1.cls mX5_remember.1 mX5_remember.1 ∈ ax_U := ax_in 648 (by decide +kernel) rfl
theorem cm_X5_goBack : Cond.initialized mX5_goBack.1.cls ∈ ax_U ∧ Cond.code mX5_goBack.1 mX5_goBack.2.1 mX5_goBack.2.2.1 mX5_goBack.2.2.2 ∈ ax_U ∧ (mX5_goBack.1.cls ≠ "java/lang/invoke/MethodHandle" ∧ mX5_goBack.1.cls ≠ "java/lang/invoke/VarHandle" ∧ (parseMethodDescriptor mX5_goBack.1.desc).map (fun d => d.parameters.length) = some 1) ∧ mX5_goBack.2.2.1 ≤ 40 := ⟨ax_in 8 (by decide +kernel) rfl, ax_in 823 (by decide +kernel) rfl, ⟨by decide +kernel, by decide +kernel, by decide +kernel⟩, by decide⟩
theorem ci_X5_goBack : Cond.instanceMethod mX5_goBack.1 ∈ ax_U := ax_in 821 (by decide +kernel) rfl
theorem ce_X5_goBack : Cond.selects mX5_goBack.1.cls mX5_goBack.1 mX5_goBack.1 ∈ ax_U := ax_in 822 (by decide +kernel) rfl
theorem cm_X6_reads : Cond.initialized mX6_reads.1.cls ∈ ax_U ∧ Cond.code mX6_reads.1 mX6_reads.2.1 mX6_reads.2.2.1 mX6_reads.2.2.2 ∈ ax_U ∧ (mX6_reads.1.cls ≠ "java/lang/invoke/MethodHandle" ∧ mX6_reads.1.cls ≠ "java/lang/invoke/VarHandle" ∧ (parseMethodDescriptor mX6_reads.1.desc).map (fun d => d.parameters.length) = some 0) ∧ mX6_reads.2.2.1 ≤ 40 := ⟨ax_in 4 (by decide +kernel) rfl, ax_in 505 (by decide +kernel) rfl, ⟨by decide +kernel, by decide +kernel, by decide +kernel⟩, by decide⟩
theorem ci_X6_reads : Cond.instanceMethod mX6_reads.1 ∈ ax_U := ax_in 503 (by decide +kernel) rfl
theorem ce_X6_reads : Cond.selects mX6_reads.1.cls mX6_reads.1 mX6_reads.1 ∈ ax_U := ax_in 504 (by decide +kernel) rfl
theorem cm_X6_readsClause : Cond.initialized mX6_readsClause.1.cls ∈ ax_U ∧ Cond.code mX6_readsClause.1 mX6_readsClause.2.1 mX6_readsClause.2.2.1 mX6_readsClause.2.2.2 ∈ ax_U ∧ (mX6_readsClause.1.cls ≠ "java/lang/invoke/MethodHandle" ∧ mX6_readsClause.1.cls ≠ "java/lang/invoke/VarHandle" ∧ (parseMethodDescriptor mX6_readsClause.1.desc).map (fun d => d.parameters.length) = some 0) ∧ mX6_readsClause.2.2.1 ≤ 40 := ⟨ax_in 4 (by decide +kernel) rfl, ax_in 509 (by decide +kernel) rfl, ⟨by decide +kernel, by decide +kernel, by decide +kernel⟩, by decide⟩
theorem ci_X6_readsClause : Cond.instanceMethod mX6_readsClause.1 ∈ ax_U := ax_in 508 (by decide +kernel) rfl
theorem ce_X6_readsClause : Cond.selects mX6_readsClause.1.cls mX6_readsClause.1 mX6_readsClause.1 ∈ ax_U := ax_inp (n := 3) 10 (by decide +kernel) rfl
theorem cm_X6_readsCondition : Cond.initialized mX6_readsCondition.1.cls ∈ ax_U ∧ Cond.code mX6_readsCondition.1 mX6_readsCondition.2.1 mX6_readsCondition.2.2.1 mX6_readsCondition.2.2.2 ∈ ax_U ∧ (mX6_readsCondition.1.cls ≠ "java/lang/invoke/MethodHandle" ∧ mX6_readsCondition.1.cls ≠ "java/lang/invoke/VarHandle" ∧ (parseMethodDescriptor mX6_readsCondition.1.desc).map (fun d => d.parameters.length) = some 2) ∧ mX6_readsCondition.2.2.1 ≤ 40 := ⟨ax_in 4 (by decide +kernel) rfl, ax_in 538 (by decide +kernel) rfl, ⟨by decide +kernel, by decide +kernel, by decide +kernel⟩, by decide⟩
theorem ci_X6_readsCondition : Cond.instanceMethod mX6_readsCondition.1 ∈ ax_U := ax_in 537 (by decide +kernel) rfl
theorem ce_X6_readsCondition : Cond.selects mX6_readsCondition.1.cls mX6_readsCondition.1 mX6_readsCondition.1 ∈ ax_U := ax_inp (n := 3) 16 (by decide +kernel) rfl
theorem cm_X6_readsTruth : Cond.initialized mX6_readsTruth.1.cls ∈ ax_U ∧ Cond.code mX6_readsTruth.1 mX6_readsTruth.2.1 mX6_readsTruth.2.2.1 mX6_readsTruth.2.2.2 ∈ ax_U ∧ (mX6_readsTruth.1.cls ≠ "java/lang/invoke/MethodHandle" ∧ mX6_readsTruth.1.cls ≠ "java/lang/invoke/VarHandle" ∧ (parseMethodDescriptor mX6_readsTruth.1.desc).map (fun d => d.parameters.length) = some 2) ∧ mX6_readsTruth.2.2.1 ≤ 40 := ⟨ax_in 4 (by decide +kernel) rfl, ax_in 542 (by decide +kernel) rfl, ⟨by decide +kernel, by decide +kernel, by decide +kernel⟩, by decide⟩
theorem ci_X6_readsTruth : Cond.instanceMethod mX6_readsTruth.1 ∈ ax_U := ax_in 541 (by decide +kernel) rfl
theorem ce_X6_readsTruth : Cond.selects mX6_readsTruth.1.cls mX6_readsTruth.1 mX6_readsTruth.1 ∈ ax_U := ax_inp (n := 3) 17 (by decide +kernel) rfl
theorem cm_X6_readsUnit : Cond.initialized mX6_readsUnit.1.cls ∈ ax_U ∧ Cond.code mX6_readsUnit.1 mX6_readsUnit.2.1 mX6_readsUnit.2.2.1 mX6_readsUnit.2.2.2 ∈ ax_U ∧ (mX6_readsUnit.1.cls ≠ "java/lang/invoke/MethodHandle" ∧ mX6_readsUnit.1.cls ≠ "java/lang/invoke/VarHandle" ∧ (parseMethodDescriptor mX6_readsUnit.1.desc).map (fun d => d.parameters.length) = some 2) ∧ mX6_readsUnit.2.2.1 ≤ 40 := ⟨ax_in 4 (by decide +kernel) rfl, ax_in 546 (by decide +kernel) rfl, ⟨by decide +kernel, by decide +kernel, by decide +kernel⟩, by decide⟩
theorem ci_X6_readsUnit : Cond.instanceMethod mX6_readsUnit.1 ∈ ax_U := ax_in 545 (by decide +kernel) rfl
theorem ce_X6_readsUnit : Cond.selects mX6_readsUnit.1.cls mX6_readsUnit.1 mX6_readsUnit.1 ∈ ax_U := ax_inp (n := 3) 18 (by decide +kernel) rfl
theorem cm_X6_readsNested : Cond.initialized mX6_readsNested.1.cls ∈ ax_U ∧ Cond.code mX6_readsNested.1 mX6_readsNested.2.1 mX6_readsNested.2.2.1 mX6_readsNested.2.2.2 ∈ ax_U ∧ (mX6_readsNested.1.cls ≠ "java/lang/invoke/MethodHandle" ∧ mX6_readsNested.1.cls ≠ "java/lang/invoke/VarHandle" ∧ (parseMethodDescriptor mX6_readsNested.1.desc).map (fun d => d.parameters.length) = some 2) ∧ mX6_readsNested.2.2.1 ≤ 40 := ⟨ax_in 4 (by decide +kernel) rfl, ax_in 550 (by decide +kernel) rfl, ⟨by decide +kernel, by decide +kernel, by decide +kernel⟩, by decide⟩
theorem ci_X6_readsNested : Cond.instanceMethod mX6_readsNested.1 ∈ ax_U := ax_in 549 (by decide +kernel) rfl
theorem ce_X6_readsNested : Cond.selects mX6_readsNested.1.cls mX6_readsNested.1 mX6_readsNested.1 ∈ ax_U := ax_inp (n := 3) 19 (by decide +kernel) rfl
theorem cm_X6_comparison : Cond.initialized mX6_comparison.1.cls ∈ ax_U ∧ Cond.code mX6_comparison.1 mX6_comparison.2.1 mX6_comparison.2.2.1 mX6_comparison.2.2.2 ∈ ax_U ∧ (mX6_comparison.1.cls ≠ "java/lang/invoke/MethodHandle" ∧ mX6_comparison.1.cls ≠ "java/lang/invoke/VarHandle" ∧ (parseMethodDescriptor mX6_comparison.1.desc).map (fun d => d.parameters.length) = some 0) ∧ mX6_comparison.2.2.1 ≤ 40 := ⟨ax_in 4 (by decide +kernel) rfl, ax_in 534 (by decide +kernel) rfl, ⟨by decide +kernel, by decide +kernel, by decide +kernel⟩, by decide⟩
theorem ci_X6_comparison : Cond.instanceMethod mX6_comparison.1 ∈ ax_U := ax_in 533 (by decide +kernel) rfl
theorem ce_X6_comparison : Cond.selects mX6_comparison.1.cls mX6_comparison.1 mX6_comparison.1 ∈ ax_U := ax_inp (n := 3) 15 (by decide +kernel) rfl
theorem cm_X6_readsSum : Cond.initialized mX6_readsSum.1.cls ∈ ax_U ∧ Cond.code mX6_readsSum.1 mX6_readsSum.2.1 mX6_readsSum.2.2.1 mX6_readsSum.2.2.2 ∈ ax_U ∧ (mX6_readsSum.1.cls ≠ "java/lang/invoke/MethodHandle" ∧ mX6_readsSum.1.cls ≠ "java/lang/invoke/VarHandle" ∧ (parseMethodDescriptor mX6_readsSum.1.desc).map (fun d => d.parameters.length) = some 1) ∧ mX6_readsSum.2.2.1 ≤ 40 := ⟨ax_in 4 (by decide +kernel) rfl, ax_in 515 (by decide +kernel) rfl, ⟨by decide +kernel, by decide +kernel, by decide +kernel⟩, by decide⟩
theorem ci_X6_readsSum : Cond.instanceMethod mX6_readsSum.1 ∈ ax_U := ax_in 514 (by decide +kernel) rfl
theorem ce_X6_readsSum : Cond.selects mX6_readsSum.1.cls mX6_readsSum.1 mX6_readsSum.1 ∈ ax_U := ax_inp (n := 3) 11 (by decide +kernel) rfl
theorem cm_X6_readsTerm : Cond.initialized mX6_readsTerm.1.cls ∈ ax_U ∧ Cond.code mX6_readsTerm.1 mX6_readsTerm.2.1 mX6_readsTerm.2.2.1 mX6_readsTerm.2.2.2 ∈ ax_U ∧ (mX6_readsTerm.1.cls ≠ "java/lang/invoke/MethodHandle" ∧ mX6_readsTerm.1.cls ≠ "java/lang/invoke/VarHandle" ∧ (parseMethodDescriptor mX6_readsTerm.1.desc).map (fun d => d.parameters.length) = some 1) ∧ mX6_readsTerm.2.2.1 ≤ 40 := ⟨ax_in 4 (by decide +kernel) rfl, ax_in 519 (by decide +kernel) rfl, ⟨by decide +kernel, by decide +kernel, by decide +kernel⟩, by decide⟩
theorem ci_X6_readsTerm : Cond.instanceMethod mX6_readsTerm.1 ∈ ax_U := ax_in 518 (by decide +kernel) rfl
theorem ce_X6_readsTerm : Cond.selects mX6_readsTerm.1.cls mX6_readsTerm.1 mX6_readsTerm.1 ∈ ax_U := ax_inp (n := 3) 12 (by decide +kernel) rfl
theorem cm_X6_readsAtom : Cond.initialized mX6_readsAtom.1.cls ∈ ax_U ∧ Cond.code mX6_readsAtom.1 mX6_readsAtom.2.1 mX6_readsAtom.2.2.1 mX6_readsAtom.2.2.2 ∈ ax_U ∧ (mX6_readsAtom.1.cls ≠ "java/lang/invoke/MethodHandle" ∧ mX6_readsAtom.1.cls ≠ "java/lang/invoke/VarHandle" ∧ (parseMethodDescriptor mX6_readsAtom.1.desc).map (fun d => d.parameters.length) = some 1) ∧ mX6_readsAtom.2.2.1 ≤ 40 := ⟨ax_in 4 (by decide +kernel) rfl, ax_in 523 (by decide +kernel) rfl, ⟨by decide +kernel, by decide +kernel, by decide +kernel⟩, by decide⟩
theorem ci_X6_readsAtom : Cond.instanceMethod mX6_readsAtom.1 ∈ ax_U := ax_in 522 (by decide +kernel) rfl
theorem ce_X6_readsAtom : Cond.selects mX6_readsAtom.1.cls mX6_readsAtom.1 mX6_readsAtom.1 ∈ ax_U := ax_inp (n := 3) 13 (by decide +kernel) rfl
theorem cm_X6_put : Cond.initialized mX6_put.1.cls ∈ ax_U ∧ Cond.code mX6_put.1 mX6_put.2.1 mX6_put.2.2.1 mX6_put.2.2.2 ∈ ax_U ∧ (mX6_put.1.cls ≠ "java/lang/invoke/MethodHandle" ∧ mX6_put.1.cls ≠ "java/lang/invoke/VarHandle" ∧ (parseMethodDescriptor mX6_put.1.desc).map (fun d => d.parameters.length) = some 2) ∧ mX6_put.2.2.1 ≤ 40 := ⟨ax_in 4 (by decide +kernel) rfl, ax_in 529 (by decide +kernel) rfl, ⟨by decide +kernel, by decide +kernel, by decide +kernel⟩, by decide⟩
theorem ci_X6_put : Cond.instanceMethod mX6_put.1 ∈ ax_U := ax_in 528 (by decide +kernel) rfl
theorem ce_X6_put : Cond.selects mX6_put.1.cls mX6_put.1 mX6_put.1 ∈ ax_U := ax_inp (n := 3) 14 (by decide +kernel) rfl
theorem cm_X7_add : Cond.initialized mX7_add.1.cls ∈ ax_U ∧ Cond.code mX7_add.1 mX7_add.2.1 mX7_add.2.2.1 mX7_add.2.2.2 ∈ ax_U ∧ (mX7_add.1.cls ≠ "java/lang/invoke/MethodHandle" ∧ mX7_add.1.cls ≠ "java/lang/invoke/VarHandle" ∧ (parseMethodDescriptor mX7_add.1.desc).map (fun d => d.parameters.length) = some 1) ∧ mX7_add.2.2.1 ≤ 40 := ⟨ax_in 5 (by decide +kernel) rfl, ax_in 558 (by decide +kernel) rfl, ⟨by decide +kernel, by decide +kernel, by decide +kernel⟩, by decide⟩
theorem ci_X7_add : Cond.instanceMethod mX7_add.1 ∈ ax_U := ax_in 556 (by decide +kernel) rfl
theorem ce_X7_add : Cond.selects mX7_add.1.cls mX7_add.1 mX7_add.1 ∈ ax_U := ax_in 557 (by decide +kernel) rfl
theorem cm_X7_readBears : Cond.initialized mX7_readBears.1.cls ∈ ax_U ∧ Cond.code mX7_readBears.1 mX7_readBears.2.1 mX7_readBears.2.2.1 mX7_readBears.2.2.2 ∈ ax_U ∧ (mX7_readBears.1.cls ≠ "java/lang/invoke/MethodHandle" ∧ mX7_readBears.1.cls ≠ "java/lang/invoke/VarHandle" ∧ (parseMethodDescriptor mX7_readBears.1.desc).map (fun d => d.parameters.length) = some 0) ∧ mX7_readBears.2.2.1 ≤ 40 := ⟨ax_in 5 (by decide +kernel) rfl, ax_in 911 (by decide +kernel) rfl, ⟨by decide +kernel, by decide +kernel, by decide +kernel⟩, by decide⟩
theorem ci_X7_readBears : Cond.instanceMethod mX7_readBears.1 ∈ ax_U := ax_in 909 (by decide +kernel) rfl
theorem ce_X7_readBears : Cond.selects mX7_readBears.1.cls mX7_readBears.1 mX7_readBears.1 ∈ ax_U := ax_in 910 (by decide +kernel) rfl
theorem cm_X7_tell : Cond.initialized mX7_tell.1.cls ∈ ax_U ∧ Cond.code mX7_tell.1 mX7_tell.2.1 mX7_tell.2.2.1 mX7_tell.2.2.2 ∈ ax_U ∧ (mX7_tell.1.cls ≠ "java/lang/invoke/MethodHandle" ∧ mX7_tell.1.cls ≠ "java/lang/invoke/VarHandle" ∧ (parseMethodDescriptor mX7_tell.1.desc).map (fun d => d.parameters.length) = some 6) ∧ mX7_tell.2.2.1 ≤ 40 := ⟨ax_in 5 (by decide +kernel) rfl, ax_in 687 (by decide +kernel) rfl, ⟨by decide +kernel, by decide +kernel, by decide +kernel⟩, by decide⟩
theorem ci_X7_tell : Cond.instanceMethod mX7_tell.1 ∈ ax_U := ax_in 685 (by decide +kernel) rfl
theorem ce_X7_tell : Cond.selects mX7_tell.1.cls mX7_tell.1 mX7_tell.1 ∈ ax_U := ax_in 686 (by decide +kernel) rfl
theorem cm_X7_worth : Cond.initialized mX7_worth.1.cls ∈ ax_U ∧ Cond.code mX7_worth.1 mX7_worth.2.1 mX7_worth.2.2.1 mX7_worth.2.2.2 ∈ ax_U ∧ (mX7_worth.1.cls ≠ "java/lang/invoke/MethodHandle" ∧ mX7_worth.1.cls ≠ "java/lang/invoke/VarHandle" ∧ (parseMethodDescriptor mX7_worth.1.desc).map (fun d => d.parameters.length) = some 0) ∧ mX7_worth.2.2.1 ≤ 40 := ⟨ax_in 5 (by decide +kernel) rfl, ax_in 691 (by decide +kernel) rfl, ⟨by decide +kernel, by decide +kernel, by decide +kernel⟩, by decide⟩
theorem ci_X7_worth : Cond.instanceMethod mX7_worth.1 ∈ ax_U := ax_in 689 (by decide +kernel) rfl
theorem ce_X7_worth : Cond.selects mX7_worth.1.cls mX7_worth.1 mX7_worth.1 ∈ ax_U := ax_in 690 (by decide +kernel) rfl
theorem cm_X7_push : Cond.initialized mX7_push.1.cls ∈ ax_U ∧ Cond.code mX7_push.1 mX7_push.2.1 mX7_push.2.2.1 mX7_push.2.2.2 ∈ ax_U ∧ (mX7_push.1.cls ≠ "java/lang/invoke/MethodHandle" ∧ mX7_push.1.cls ≠ "java/lang/invoke/VarHandle" ∧ (parseMethodDescriptor mX7_push.1.desc).map (fun d => d.parameters.length) = some 1) ∧ mX7_push.2.2.1 ≤ 40 := ⟨ax_in 5 (by decide +kernel) rfl, ax_in 699 (by decide +kernel) rfl, ⟨by decide +kernel, by decide +kernel, by decide +kernel⟩, by decide⟩
theorem ci_X7_push : Cond.instanceMethod mX7_push.1 ∈ ax_U := ax_in 698 (by decide +kernel) rfl
theorem ce_X7_push : Cond.selects mX7_push.1.cls mX7_push.1 mX7_push.1 ∈ ax_U := ax_inp (n := 7) 29 (by decide +kernel) rfl
theorem cm_X7_pop : Cond.initialized mX7_pop.1.cls ∈ ax_U ∧ Cond.code mX7_pop.1 mX7_pop.2.1 mX7_pop.2.2.1 mX7_pop.2.2.2 ∈ ax_U ∧ (mX7_pop.1.cls ≠ "java/lang/invoke/MethodHandle" ∧ mX7_pop.1.cls ≠ "java/lang/invoke/VarHandle" ∧ (parseMethodDescriptor mX7_pop.1.desc).map (fun d => d.parameters.length) = some 0) ∧ mX7_pop.2.2.1 ≤ 40 := ⟨ax_in 5 (by decide +kernel) rfl, ax_in 695 (by decide +kernel) rfl, ⟨by decide +kernel, by decide +kernel, by decide +kernel⟩, by decide⟩
theorem ci_X7_pop : Cond.instanceMethod mX7_pop.1 ∈ ax_U := ax_in 694 (by decide +kernel) rfl
theorem ce_X7_pop : Cond.selects mX7_pop.1.cls mX7_pop.1 mX7_pop.1 ∈ ax_U := ax_inp (n := 7) 28 (by decide +kernel) rfl
theorem cm_X7_join : Cond.initialized mX7_join.1.cls ∈ ax_U ∧ Cond.code mX7_join.1 mX7_join.2.1 mX7_join.2.2.1 mX7_join.2.2.2 ∈ ax_U ∧ (mX7_join.1.cls ≠ "java/lang/invoke/MethodHandle" ∧ mX7_join.1.cls ≠ "java/lang/invoke/VarHandle" ∧ (parseMethodDescriptor mX7_join.1.desc).map (fun d => d.parameters.length) = some 3) ∧ mX7_join.2.2.1 ≤ 40 := ⟨ax_in 5 (by decide +kernel) rfl, ax_in 702 (by decide +kernel) rfl, ⟨by decide +kernel, by decide +kernel, by decide +kernel⟩, by decide⟩
theorem cs_X7_join : Cond.static mX7_join.1 ∈ ax_U := ax_in 701 (by decide +kernel) rfl
theorem cm_X8_fall : Cond.initialized mX8_fall.1.cls ∈ ax_U ∧ Cond.code mX8_fall.1 mX8_fall.2.1 mX8_fall.2.2.1 mX8_fall.2.2.2 ∈ ax_U ∧ (mX8_fall.1.cls ≠ "java/lang/invoke/MethodHandle" ∧ mX8_fall.1.cls ≠ "java/lang/invoke/VarHandle" ∧ (parseMethodDescriptor mX8_fall.1.desc).map (fun d => d.parameters.length) = some 3) ∧ mX8_fall.2.2.1 ≤ 40 := ⟨ax_in 7 (by decide +kernel) rfl, ax_in 663 (by decide +kernel) rfl, ⟨by decide +kernel, by decide +kernel, by decide +kernel⟩, by decide⟩
theorem ci_X8_fall : Cond.instanceMethod mX8_fall.1 ∈ ax_U := ax_in 661 (by decide +kernel) rfl
theorem ce_X8_fall : Cond.selects mX8_fall.1.cls mX8_fall.1 mX8_fall.1 ∈ ax_U := ax_in 662 (by decide +kernel) rfl
theorem cm_X8_send : Cond.initialized mX8_send.1.cls ∈ ax_U ∧ Cond.code mX8_send.1 mX8_send.2.1 mX8_send.2.2.1 mX8_send.2.2.2 ∈ ax_U ∧ (mX8_send.1.cls ≠ "java/lang/invoke/MethodHandle" ∧ mX8_send.1.cls ≠ "java/lang/invoke/VarHandle" ∧ (parseMethodDescriptor mX8_send.1.desc).map (fun d => d.parameters.length) = some 3) ∧ mX8_send.2.2.1 ≤ 40 := ⟨ax_in 7 (by decide +kernel) rfl, ax_in 668 (by decide +kernel) rfl, ⟨by decide +kernel, by decide +kernel, by decide +kernel⟩, by decide⟩
theorem ci_X8_send : Cond.instanceMethod mX8_send.1 ∈ ax_U := ax_in 667 (by decide +kernel) rfl
theorem ce_X8_send : Cond.selects mX8_send.1.cls mX8_send.1 mX8_send.1 ∈ ax_U := ax_inp (n := 9) 26 (by decide +kernel) rfl
theorem cm_X8_arrive : Cond.initialized mX8_arrive.1.cls ∈ ax_U ∧ Cond.code mX8_arrive.1 mX8_arrive.2.1 mX8_arrive.2.2.1 mX8_arrive.2.2.2 ∈ ax_U ∧ (mX8_arrive.1.cls ≠ "java/lang/invoke/MethodHandle" ∧ mX8_arrive.1.cls ≠ "java/lang/invoke/VarHandle" ∧ (parseMethodDescriptor mX8_arrive.1.desc).map (fun d => d.parameters.length) = some 4) ∧ mX8_arrive.2.2.1 ≤ 40 := ⟨ax_in 7 (by decide +kernel) rfl, ax_in 672 (by decide +kernel) rfl, ⟨by decide +kernel, by decide +kernel, by decide +kernel⟩, by decide⟩
theorem ci_X8_arrive : Cond.instanceMethod mX8_arrive.1 ∈ ax_U := ax_in 671 (by decide +kernel) rfl
theorem ce_X8_arrive : Cond.selects mX8_arrive.1.cls mX8_arrive.1 mX8_arrive.1 ∈ ax_U := ax_inp (n := 9) 27 (by decide +kernel) rfl
theorem cm_X8_pass : Cond.initialized mX8_pass.1.cls ∈ ax_U ∧ Cond.code mX8_pass.1 mX8_pass.2.1 mX8_pass.2.2.1 mX8_pass.2.2.2 ∈ ax_U ∧ (mX8_pass.1.cls ≠ "java/lang/invoke/MethodHandle" ∧ mX8_pass.1.cls ≠ "java/lang/invoke/VarHandle" ∧ (parseMethodDescriptor mX8_pass.1.desc).map (fun d => d.parameters.length) = some 3) ∧ mX8_pass.2.2.1 ≤ 40 := ⟨ax_in 7 (by decide +kernel) rfl, ax_in 714 (by decide +kernel) rfl, ⟨by decide +kernel, by decide +kernel, by decide +kernel⟩, by decide⟩
theorem ci_X8_pass : Cond.instanceMethod mX8_pass.1 ∈ ax_U := ax_in 713 (by decide +kernel) rfl
theorem ce_X8_pass : Cond.selects mX8_pass.1.cls mX8_pass.1 mX8_pass.1 ∈ ax_U := ax_inp (n := 9) 30 (by decide +kernel) rfl
theorem cm_X8_burningBits : Cond.initialized mX8_burningBits.1.cls ∈ ax_U ∧ Cond.code mX8_burningBits.1 mX8_burningBits.2.1 mX8_burningBits.2.2.1 mX8_burningBits.2.2.2 ∈ ax_U ∧ (mX8_burningBits.1.cls ≠ "java/lang/invoke/MethodHandle" ∧ mX8_burningBits.1.cls ≠ "java/lang/invoke/VarHandle" ∧ (parseMethodDescriptor mX8_burningBits.1.desc).map (fun d => d.parameters.length) = some 0) ∧ mX8_burningBits.2.2.1 ≤ 40 := ⟨ax_in 7 (by decide +kernel) rfl, ax_in 718 (by decide +kernel) rfl, ⟨by decide +kernel, by decide +kernel, by decide +kernel⟩, by decide⟩
theorem ci_X8_burningBits : Cond.instanceMethod mX8_burningBits.1 ∈ ax_U := ax_in 717 (by decide +kernel) rfl
theorem ce_X8_burningBits : Cond.selects mX8_burningBits.1.cls mX8_burningBits.1 mX8_burningBits.1 ∈ ax_U := ax_inp (n := 9) 31 (by decide +kernel) rfl
theorem cm_X9_addBytes : Cond.initialized mX9_addBytes.1.cls ∈ ax_U ∧ Cond.code mX9_addBytes.1 mX9_addBytes.2.1 mX9_addBytes.2.2.1 mX9_addBytes.2.2.2 ∈ ax_U ∧ (mX9_addBytes.1.cls ≠ "java/lang/invoke/MethodHandle" ∧ mX9_addBytes.1.cls ≠ "java/lang/invoke/VarHandle" ∧ (parseMethodDescriptor mX9_addBytes.1.desc).map (fun d => d.parameters.length) = some 1) ∧ mX9_addBytes.2.2.1 ≤ 40 := ⟨ax_in 2 (by decide +kernel) rfl, ax_in 422 (by decide +kernel) rfl, ⟨by decide +kernel, by decide +kernel, by decide +kernel⟩, by decide⟩
theorem ci_X9_addBytes : Cond.instanceMethod mX9_addBytes.1 ∈ ax_U := ax_in 420 (by decide +kernel) rfl
theorem ce_X9_addBytes : Cond.selects mX9_addBytes.1.cls mX9_addBytes.1 mX9_addBytes.1 ∈ ax_U := ax_in 421 (by decide +kernel) rfl
theorem cm_X9_sign : Cond.initialized mX9_sign.1.cls ∈ ax_U ∧ Cond.code mX9_sign.1 mX9_sign.2.1 mX9_sign.2.2.1 mX9_sign.2.2.2 ∈ ax_U ∧ (mX9_sign.1.cls ≠ "java/lang/invoke/MethodHandle" ∧ mX9_sign.1.cls ≠ "java/lang/invoke/VarHandle" ∧ (parseMethodDescriptor mX9_sign.1.desc).map (fun d => d.parameters.length) = some 0) ∧ mX9_sign.2.2.1 ≤ 40 := ⟨ax_in 2 (by decide +kernel) rfl, ax_in 455 (by decide +kernel) rfl, ⟨by decide +kernel, by decide +kernel, by decide +kernel⟩, by decide⟩
theorem ci_X9_sign : Cond.instanceMethod mX9_sign.1 ∈ ax_U := ax_in 453 (by decide +kernel) rfl
theorem ce_X9_sign : Cond.selects mX9_sign.1.cls mX9_sign.1 mX9_sign.1 ∈ ax_U := ax_in 454 (by decide +kernel) rfl
theorem cm_X9_takes : Cond.initialized mX9_takes.1.cls ∈ ax_U ∧ Cond.code mX9_takes.1 mX9_takes.2.1 mX9_takes.2.2.1 mX9_takes.2.2.2 ∈ ax_U ∧ (mX9_takes.1.cls ≠ "java/lang/invoke/MethodHandle" ∧ mX9_takes.1.cls ≠ "java/lang/invoke/VarHandle" ∧ (parseMethodDescriptor mX9_takes.1.desc).map (fun d => d.parameters.length) = some 1) ∧ mX9_takes.2.2.1 ≤ 40 := ⟨ax_in 2 (by decide +kernel) rfl, ax_in 489 (by decide +kernel) rfl, ⟨by decide +kernel, by decide +kernel, by decide +kernel⟩, by decide⟩
theorem ci_X9_takes : Cond.instanceMethod mX9_takes.1 ∈ ax_U := ax_in 487 (by decide +kernel) rfl
theorem ce_X9_takes : Cond.selects mX9_takes.1.cls mX9_takes.1 mX9_takes.1 ∈ ax_U := ax_in 488 (by decide +kernel) rfl
theorem cm_X9_takesNumber : Cond.initialized mX9_takesNumber.1.cls ∈ ax_U ∧ Cond.code mX9_takesNumber.1 mX9_takesNumber.2.1 mX9_takesNumber.2.2.1 mX9_takesNumber.2.2.2 ∈ ax_U ∧ (mX9_takesNumber.1.cls ≠ "java/lang/invoke/MethodHandle" ∧ mX9_takesNumber.1.cls ≠ "java/lang/invoke/VarHandle" ∧ (parseMethodDescriptor mX9_takesNumber.1.desc).map (fun d => d.parameters.length) = some 1) ∧ mX9_takesNumber.2.2.1 ≤ 40 := ⟨ax_in 2 (by decide +kernel) rfl, ax_in 476 (by decide +kernel) rfl, ⟨by decide +kernel, by decide +kernel, by decide +kernel⟩, by decide⟩
theorem ci_X9_takesNumber : Cond.instanceMethod mX9_takesNumber.1 ∈ ax_U := ax_in 474 (by decide +kernel) rfl
theorem ce_X9_takesNumber : Cond.selects mX9_takesNumber.1.cls mX9_takesNumber.1 mX9_takesNumber.1 ∈ ax_U := ax_in 475 (by decide +kernel) rfl
theorem cm_X9_atDigit : Cond.initialized mX9_atDigit.1.cls ∈ ax_U ∧ Cond.code mX9_atDigit.1 mX9_atDigit.2.1 mX9_atDigit.2.2.1 mX9_atDigit.2.2.2 ∈ ax_U ∧ (mX9_atDigit.1.cls ≠ "java/lang/invoke/MethodHandle" ∧ mX9_atDigit.1.cls ≠ "java/lang/invoke/VarHandle" ∧ (parseMethodDescriptor mX9_atDigit.1.desc).map (fun d => d.parameters.length) = some 0) ∧ mX9_atDigit.2.2.1 ≤ 40 := ⟨ax_in 2 (by decide +kernel) rfl, ax_in 481 (by decide +kernel) rfl, ⟨by decide +kernel, by decide +kernel, by decide +kernel⟩, by decide⟩
theorem ci_X9_atDigit : Cond.instanceMethod mX9_atDigit.1 ∈ ax_U := ax_in 480 (by decide +kernel) rfl
theorem ce_X9_atDigit : Cond.selects mX9_atDigit.1.cls mX9_atDigit.1 mX9_atDigit.1 ∈ ax_U := ax_inp (n := 4) 6 (by decide +kernel) rfl
theorem cm_X10_gather : Cond.initialized mX10_gather.1.cls ∈ ax_U ∧ Cond.code mX10_gather.1 mX10_gather.2.1 mX10_gather.2.2.1 mX10_gather.2.2.2 ∈ ax_U ∧ (mX10_gather.1.cls ≠ "java/lang/invoke/MethodHandle" ∧ mX10_gather.1.cls ≠ "java/lang/invoke/VarHandle" ∧ (parseMethodDescriptor mX10_gather.1.desc).map (fun d => d.parameters.length) = some 2) ∧ mX10_gather.2.2.1 ≤ 40 := ⟨ax_in 12 (by decide +kernel) rfl, ax_in 882 (by decide +kernel) rfl, ⟨by decide +kernel, by decide +kernel, by decide +kernel⟩, by decide⟩
theorem ci_X10_gather : Cond.instanceMethod mX10_gather.1 ∈ ax_U := ax_in 880 (by decide +kernel) rfl
theorem ce_X10_gather : Cond.selects mX10_gather.1.cls mX10_gather.1 mX10_gather.1 ∈ ax_U := ax_in 881 (by decide +kernel) rfl
theorem cm_X10_add : Cond.initialized mX10_add.1.cls ∈ ax_U ∧ Cond.code mX10_add.1 mX10_add.2.1 mX10_add.2.2.1 mX10_add.2.2.2 ∈ ax_U ∧ (mX10_add.1.cls ≠ "java/lang/invoke/MethodHandle" ∧ mX10_add.1.cls ≠ "java/lang/invoke/VarHandle" ∧ (parseMethodDescriptor mX10_add.1.desc).map (fun d => d.parameters.length) = some 1) ∧ mX10_add.2.2.1 ≤ 40 := ⟨ax_in 12 (by decide +kernel) rfl, ax_in 886 (by decide +kernel) rfl, ⟨by decide +kernel, by decide +kernel, by decide +kernel⟩, by decide⟩
theorem ci_X10_add : Cond.instanceMethod mX10_add.1 ∈ ax_U := ax_in 885 (by decide +kernel) rfl
theorem ce_X10_add : Cond.selects mX10_add.1.cls mX10_add.1 mX10_add.1 ∈ ax_U := ax_inp (n := 2) 39 (by decide +kernel) rfl
theorem cm_X11_feed : Cond.initialized mX11_feed.1.cls ∈ ax_U ∧ Cond.code mX11_feed.1 mX11_feed.2.1 mX11_feed.2.2.1 mX11_feed.2.2.2 ∈ ax_U ∧ (mX11_feed.1.cls ≠ "java/lang/invoke/MethodHandle" ∧ mX11_feed.1.cls ≠ "java/lang/invoke/VarHandle" ∧ (parseMethodDescriptor mX11_feed.1.desc).map (fun d => d.parameters.length) = some 5) ∧ mX11_feed.2.2.1 ≤ 40 := ⟨ax_in 1 (by decide +kernel) rfl, ax_in 415 (by decide +kernel) rfl, ⟨by decide +kernel, by decide +kernel, by decide +kernel⟩, by decide⟩
theorem ci_X11_feed : Cond.instanceMethod mX11_feed.1 ∈ ax_U := ax_in 413 (by decide +kernel) rfl
theorem ce_X11_feed : Cond.selects mX11_feed.1.cls mX11_feed.1 mX11_feed.1 ∈ ax_U := ax_in 414 (by decide +kernel) rfl
theorem cm_X11_end : Cond.initialized mX11_end.1.cls ∈ ax_U ∧ Cond.code mX11_end.1 mX11_end.2.1 mX11_end.2.2.1 mX11_end.2.2.2 ∈ ax_U ∧ (mX11_end.1.cls ≠ "java/lang/invoke/MethodHandle" ∧ mX11_end.1.cls ≠ "java/lang/invoke/VarHandle" ∧ (parseMethodDescriptor mX11_end.1.desc).map (fun d => d.parameters.length) = some 1) ∧ mX11_end.2.2.1 ≤ 40 := ⟨ax_in 1 (by decide +kernel) rfl, ax_in 426 (by decide +kernel) rfl, ⟨by decide +kernel, by decide +kernel, by decide +kernel⟩, by decide⟩
theorem ci_X11_end : Cond.instanceMethod mX11_end.1 ∈ ax_U := ax_in 424 (by decide +kernel) rfl
theorem ce_X11_end : Cond.selects mX11_end.1.cls mX11_end.1 mX11_end.1 ∈ ax_U := ax_in 425 (by decide +kernel) rfl
theorem cm_X11_fault : Cond.initialized mX11_fault.1.cls ∈ ax_U ∧ Cond.code mX11_fault.1 mX11_fault.2.1 mX11_fault.2.2.1 mX11_fault.2.2.2 ∈ ax_U ∧ (mX11_fault.1.cls ≠ "java/lang/invoke/MethodHandle" ∧ mX11_fault.1.cls ≠ "java/lang/invoke/VarHandle" ∧ (parseMethodDescriptor mX11_fault.1.desc).map (fun d => d.parameters.length) = some 1) ∧ mX11_fault.2.2.1 ≤ 40 := ⟨ax_in 1 (by decide +kernel) rfl, ax_in 430 (by decide +kernel) rfl, ⟨by decide +kernel, by decide +kernel, by decide +kernel⟩, by decide⟩
theorem ci_X11_fault : Cond.instanceMethod mX11_fault.1 ∈ ax_U := ax_in 428 (by decide +kernel) rfl
theorem ce_X11_fault : Cond.selects mX11_fault.1.cls mX11_fault.1 mX11_fault.1 ∈ ax_U := ax_in 429 (by decide +kernel) rfl
theorem cm_X11_text : Cond.initialized mX11_text.1.cls ∈ ax_U ∧ Cond.code mX11_text.1 mX11_text.2.1 mX11_text.2.2.1 mX11_text.2.2.2 ∈ ax_U ∧ (mX11_text.1.cls ≠ "java/lang/invoke/MethodHandle" ∧ mX11_text.1.cls ≠ "java/lang/invoke/VarHandle" ∧ (parseMethodDescriptor mX11_text.1.desc).map (fun d => d.parameters.length) = some 1) ∧ mX11_text.2.2.1 ≤ 40 := ⟨ax_in 1 (by decide +kernel) rfl, ax_in 554 (by decide +kernel) rfl, ⟨by decide +kernel, by decide +kernel, by decide +kernel⟩, by decide⟩
theorem ci_X11_text : Cond.instanceMethod mX11_text.1 ∈ ax_U := ax_in 552 (by decide +kernel) rfl
theorem ce_X11_text : Cond.selects mX11_text.1.cls mX11_text.1 mX11_text.1 ∈ ax_U := ax_in 553 (by decide +kernel) rfl
theorem cm_X11_law : Cond.initialized mX11_law.1.cls ∈ ax_U ∧ Cond.code mX11_law.1 mX11_law.2.1 mX11_law.2.2.1 mX11_law.2.2.2 ∈ ax_U ∧ (mX11_law.1.cls ≠ "java/lang/invoke/MethodHandle" ∧ mX11_law.1.cls ≠ "java/lang/invoke/VarHandle" ∧ (parseMethodDescriptor mX11_law.1.desc).map (fun d => d.parameters.length) = some 1) ∧ mX11_law.2.2.1 ≤ 40 := ⟨ax_in 1 (by decide +kernel) rfl, ax_in 584 (by decide +kernel) rfl, ⟨by decide +kernel, by decide +kernel, by decide +kernel⟩, by decide⟩
theorem ci_X11_law : Cond.instanceMethod mX11_law.1 ∈ ax_U := ax_in 582 (by decide +kernel) rfl
theorem ce_X11_law : Cond.selects mX11_law.1.cls mX11_law.1 mX11_law.1 ∈ ax_U := ax_in 583 (by decide +kernel) rfl
theorem cm_X11_house : Cond.initialized mX11_house.1.cls ∈ ax_U ∧ Cond.code mX11_house.1 mX11_house.2.1 mX11_house.2.2.1 mX11_house.2.2.2 ∈ ax_U ∧ (mX11_house.1.cls ≠ "java/lang/invoke/MethodHandle" ∧ mX11_house.1.cls ≠ "java/lang/invoke/VarHandle" ∧ (parseMethodDescriptor mX11_house.1.desc).map (fun d => d.parameters.length) = some 2) ∧ mX11_house.2.2.1 ≤ 40 := ⟨ax_in 1 (by decide +kernel) rfl, ax_in 1083 (by decide +kernel) rfl, ⟨by decide +kernel, by decide +kernel, by decide +kernel⟩, by decide⟩
theorem ci_X11_house : Cond.instanceMethod mX11_house.1 ∈ ax_U := ax_in 1081 (by decide +kernel) rfl
theorem ce_X11_house : Cond.selects mX11_house.1.cls mX11_house.1 mX11_house.1 ∈ ax_U := ax_in 1082 (by decide +kernel) rfl
theorem cm_X11_wire : Cond.initialized mX11_wire.1.cls ∈ ax_U ∧ Cond.code mX11_wire.1 mX11_wire.2.1 mX11_wire.2.2.1 mX11_wire.2.2.2 ∈ ax_U ∧ (mX11_wire.1.cls ≠ "java/lang/invoke/MethodHandle" ∧ mX11_wire.1.cls ≠ "java/lang/invoke/VarHandle" ∧ (parseMethodDescriptor mX11_wire.1.desc).map (fun d => d.parameters.length) = some 2) ∧ mX11_wire.2.2.1 ≤ 40 := ⟨ax_in 1 (by decide +kernel) rfl, ax_in 588 (by decide +kernel) rfl, ⟨by decide +kernel, by decide +kernel, by decide +kernel⟩, by decide⟩
theorem ci_X11_wire : Cond.instanceMethod mX11_wire.1 ∈ ax_U := ax_in 586 (by decide +kernel) rfl
theorem ce_X11_wire : Cond.selects mX11_wire.1.cls mX11_wire.1 mX11_wire.1 ∈ ax_U := ax_in 587 (by decide +kernel) rfl
theorem cm_X11_status : Cond.initialized mX11_status.1.cls ∈ ax_U ∧ Cond.code mX11_status.1 mX11_status.2.1 mX11_status.2.2.1 mX11_status.2.2.2 ∈ ax_U ∧ (mX11_status.1.cls ≠ "java/lang/invoke/MethodHandle" ∧ mX11_status.1.cls ≠ "java/lang/invoke/VarHandle" ∧ (parseMethodDescriptor mX11_status.1.desc).map (fun d => d.parameters.length) = some 1) ∧ mX11_status.2.2.1 ≤ 40 := ⟨ax_in 1 (by decide +kernel) rfl, ax_in 605 (by decide +kernel) rfl, ⟨by decide +kernel, by decide +kernel, by decide +kernel⟩, by decide⟩
theorem ci_X11_status : Cond.instanceMethod mX11_status.1 ∈ ax_U := ax_in 603 (by decide +kernel) rfl
theorem ce_X11_status : Cond.selects mX11_status.1.cls mX11_status.1 mX11_status.1 ∈ ax_U := ax_in 604 (by decide +kernel) rfl
theorem cm_X11_log : Cond.initialized mX11_log.1.cls ∈ ax_U ∧ Cond.code mX11_log.1 mX11_log.2.1 mX11_log.2.2.1 mX11_log.2.2.2 ∈ ax_U ∧ (mX11_log.1.cls ≠ "java/lang/invoke/MethodHandle" ∧ mX11_log.1.cls ≠ "java/lang/invoke/VarHandle" ∧ (parseMethodDescriptor mX11_log.1.desc).map (fun d => d.parameters.length) = some 2) ∧ mX11_log.2.2.1 ≤ 40 := ⟨ax_in 1 (by decide +kernel) rfl, ax_in 609 (by decide +kernel) rfl, ⟨by decide +kernel, by decide +kernel, by decide +kernel⟩, by decide⟩
theorem ci_X11_log : Cond.instanceMethod mX11_log.1 ∈ ax_U := ax_in 607 (by decide +kernel) rfl
theorem ce_X11_log : Cond.selects mX11_log.1.cls mX11_log.1 mX11_log.1 ∈ ax_U := ax_in 608 (by decide +kernel) rfl
theorem cm_X11_count : Cond.initialized mX11_count.1.cls ∈ ax_U ∧ Cond.code mX11_count.1 mX11_count.2.1 mX11_count.2.2.1 mX11_count.2.2.2 ∈ ax_U ∧ (mX11_count.1.cls ≠ "java/lang/invoke/MethodHandle" ∧ mX11_count.1.cls ≠ "java/lang/invoke/VarHandle" ∧ (parseMethodDescriptor mX11_count.1.desc).map (fun d => d.parameters.length) = some 1) ∧ mX11_count.2.2.1 ≤ 40 := ⟨ax_in 1 (by decide +kernel) rfl, ax_in 624 (by decide +kernel) rfl, ⟨by decide +kernel, by decide +kernel, by decide +kernel⟩, by decide⟩
theorem ci_X11_count : Cond.instanceMethod mX11_count.1 ∈ ax_U := ax_in 622 (by decide +kernel) rfl
theorem ce_X11_count : Cond.selects mX11_count.1.cls mX11_count.1 mX11_count.1 ∈ ax_U := ax_in 623 (by decide +kernel) rfl
theorem cm_X11_strike : Cond.initialized mX11_strike.1.cls ∈ ax_U ∧ Cond.code mX11_strike.1 mX11_strike.2.1 mX11_strike.2.2.1 mX11_strike.2.2.2 ∈ ax_U ∧ (mX11_strike.1.cls ≠ "java/lang/invoke/MethodHandle" ∧ mX11_strike.1.cls ≠ "java/lang/invoke/VarHandle" ∧ (parseMethodDescriptor mX11_strike.1.desc).map (fun d => d.parameters.length) = some 2) ∧ mX11_strike.2.2.1 ≤ 40 := ⟨ax_in 1 (by decide +kernel) rfl, ax_in 630 (by decide +kernel) rfl, ⟨by decide +kernel, by decide +kernel, by decide +kernel⟩, by decide⟩
theorem ci_X11_strike : Cond.instanceMethod mX11_strike.1 ∈ ax_U := ax_in 628 (by decide +kernel) rfl
theorem ce_X11_strike : Cond.selects mX11_strike.1.cls mX11_strike.1 mX11_strike.1 ∈ ax_U := ax_in 629 (by decide +kernel) rfl
theorem cm_X11_lay : Cond.initialized mX11_lay.1.cls ∈ ax_U ∧ Cond.code mX11_lay.1 mX11_lay.2.1 mX11_lay.2.2.1 mX11_lay.2.2.2 ∈ ax_U ∧ (mX11_lay.1.cls ≠ "java/lang/invoke/MethodHandle" ∧ mX11_lay.1.cls ≠ "java/lang/invoke/VarHandle" ∧ (parseMethodDescriptor mX11_lay.1.desc).map (fun d => d.parameters.length) = some 2) ∧ mX11_lay.2.2.1 ≤ 40 := ⟨ax_in 1 (by decide +kernel) rfl, ax_in 732 (by decide +kernel) rfl, ⟨by decide +kernel, by decide +kernel, by decide +kernel⟩, by decide⟩
theorem ci_X11_lay : Cond.instanceMethod mX11_lay.1 ∈ ax_U := ax_in 730 (by decide +kernel) rfl
theorem ce_X11_lay : Cond.selects mX11_lay.1.cls mX11_lay.1 mX11_lay.1 ∈ ax_U := ax_in 731 (by decide +kernel) rfl
theorem cm_X11_cut : Cond.initialized mX11_cut.1.cls ∈ ax_U ∧ Cond.code mX11_cut.1 mX11_cut.2.1 mX11_cut.2.2.1 mX11_cut.2.2.2 ∈ ax_U ∧ (mX11_cut.1.cls ≠ "java/lang/invoke/MethodHandle" ∧ mX11_cut.1.cls ≠ "java/lang/invoke/VarHandle" ∧ (parseMethodDescriptor mX11_cut.1.desc).map (fun d => d.parameters.length) = some 1) ∧ mX11_cut.2.2.1 ≤ 40 := ⟨ax_in 1 (by decide +kernel) rfl, ax_in 760 (by decide +kernel) rfl, ⟨by decide +kernel, by decide +kernel, by decide +kernel⟩, by decide⟩
theorem ci_X11_cut : Cond.instanceMethod mX11_cut.1 ∈ ax_U := ax_in 758 (by decide +kernel) rfl
theorem ce_X11_cut : Cond.selects mX11_cut.1.cls mX11_cut.1 mX11_cut.1 ∈ ax_U := ax_in 759 (by decide +kernel) rfl
theorem cm_X11_scrape : Cond.initialized mX11_scrape.1.cls ∈ ax_U ∧ Cond.code mX11_scrape.1 mX11_scrape.2.1 mX11_scrape.2.2.1 mX11_scrape.2.2.2 ∈ ax_U ∧ (mX11_scrape.1.cls ≠ "java/lang/invoke/MethodHandle" ∧ mX11_scrape.1.cls ≠ "java/lang/invoke/VarHandle" ∧ (parseMethodDescriptor mX11_scrape.1.desc).map (fun d => d.parameters.length) = some 1) ∧ mX11_scrape.2.2.1 ≤ 40 := ⟨ax_in 1 (by decide +kernel) rfl, ax_in 768 (by decide +kernel) rfl, ⟨by decide +kernel, by decide +kernel, by decide +kernel⟩, by decide⟩
theorem ci_X11_scrape : Cond.instanceMethod mX11_scrape.1 ∈ ax_U := ax_in 766 (by decide +kernel) rfl
theorem ce_X11_scrape : Cond.selects mX11_scrape.1.cls mX11_scrape.1 mX11_scrape.1 ∈ ax_U := ax_in 767 (by decide +kernel) rfl
theorem cm_X11_ground : Cond.initialized mX11_ground.1.cls ∈ ax_U ∧ Cond.code mX11_ground.1 mX11_ground.2.1 mX11_ground.2.2.1 mX11_ground.2.2.2 ∈ ax_U ∧ (mX11_ground.1.cls ≠ "java/lang/invoke/MethodHandle" ∧ mX11_ground.1.cls ≠ "java/lang/invoke/VarHandle" ∧ (parseMethodDescriptor mX11_ground.1.desc).map (fun d => d.parameters.length) = some 1) ∧ mX11_ground.2.2.1 ≤ 40 := ⟨ax_in 1 (by decide +kernel) rfl, ax_in 772 (by decide +kernel) rfl, ⟨by decide +kernel, by decide +kernel, by decide +kernel⟩, by decide⟩
theorem ci_X11_ground : Cond.instanceMethod mX11_ground.1 ∈ ax_U := ax_in 770 (by decide +kernel) rfl
theorem ce_X11_ground : Cond.selects mX11_ground.1.cls mX11_ground.1 mX11_ground.1 ∈ ax_U := ax_in 771 (by decide +kernel) rfl
theorem cm_X11_summers : Cond.initialized mX11_summers.1.cls ∈ ax_U ∧ Cond.code mX11_summers.1 mX11_summers.2.1 mX11_summers.2.2.1 mX11_summers.2.2.2 ∈ ax_U ∧ (mX11_summers.1.cls ≠ "java/lang/invoke/MethodHandle" ∧ mX11_summers.1.cls ≠ "java/lang/invoke/VarHandle" ∧ (parseMethodDescriptor mX11_summers.1.desc).map (fun d => d.parameters.length) = some 1) ∧ mX11_summers.2.2.1 ≤ 40 := ⟨ax_in 1 (by decide +kernel) rfl, ax_in 780 (by decide +kernel) rfl, ⟨by decide +kernel, by decide +kernel, by decide +kernel⟩, by decide⟩
theorem ci_X11_summers : Cond.instanceMethod mX11_summers.1 ∈ ax_U := ax_in 778 (by decide +kernel) rfl
theorem ce_X11_summers : Cond.selects mX11_summers.1.cls mX11_summers.1 mX11_summers.1 ∈ ax_U := ax_in 779 (by decide +kernel) rfl
theorem cm_X11_set : Cond.initialized mX11_set.1.cls ∈ ax_U ∧ Cond.code mX11_set.1 mX11_set.2.1 mX11_set.2.2.1 mX11_set.2.2.2 ∈ ax_U ∧ (mX11_set.1.cls ≠ "java/lang/invoke/MethodHandle" ∧ mX11_set.1.cls ≠ "java/lang/invoke/VarHandle" ∧ (parseMethodDescriptor mX11_set.1.desc).map (fun d => d.parameters.length) = some 2) ∧ mX11_set.2.2.1 ≤ 40 := ⟨ax_in 1 (by decide +kernel) rfl, ax_in 797 (by decide +kernel) rfl, ⟨by decide +kernel, by decide +kernel, by decide +kernel⟩, by decide⟩
theorem ci_X11_set : Cond.instanceMethod mX11_set.1 ∈ ax_U := ax_in 795 (by decide +kernel) rfl
theorem ce_X11_set : Cond.selects mX11_set.1.cls mX11_set.1 mX11_set.1 ∈ ax_U := ax_in 796 (by decide +kernel) rfl
theorem cm_X11_decades : Cond.initialized mX11_decades.1.cls ∈ ax_U ∧ Cond.code mX11_decades.1 mX11_decades.2.1 mX11_decades.2.2.1 mX11_decades.2.2.2 ∈ ax_U ∧ (mX11_decades.1.cls ≠ "java/lang/invoke/MethodHandle" ∧ mX11_decades.1.cls ≠ "java/lang/invoke/VarHandle" ∧ (parseMethodDescriptor mX11_decades.1.desc).map (fun d => d.parameters.length) = some 2) ∧ mX11_decades.2.2.1 ≤ 40 := ⟨ax_in 1 (by decide +kernel) rfl, ax_in 801 (by decide +kernel) rfl, ⟨by decide +kernel, by decide +kernel, by decide +kernel⟩, by decide⟩
theorem ci_X11_decades : Cond.instanceMethod mX11_decades.1 ∈ ax_U := ax_in 799 (by decide +kernel) rfl
theorem ce_X11_decades : Cond.selects mX11_decades.1.cls mX11_decades.1 mX11_decades.1 ∈ ax_U := ax_in 800 (by decide +kernel) rfl
theorem cm_X11_undo : Cond.initialized mX11_undo.1.cls ∈ ax_U ∧ Cond.code mX11_undo.1 mX11_undo.2.1 mX11_undo.2.2.1 mX11_undo.2.2.2 ∈ ax_U ∧ (mX11_undo.1.cls ≠ "java/lang/invoke/MethodHandle" ∧ mX11_undo.1.cls ≠ "java/lang/invoke/VarHandle" ∧ (parseMethodDescriptor mX11_undo.1.desc).map (fun d => d.parameters.length) = some 0) ∧ mX11_undo.2.2.1 ≤ 40 := ⟨ax_in 1 (by decide +kernel) rfl, ax_in 819 (by decide +kernel) rfl, ⟨by decide +kernel, by decide +kernel, by decide +kernel⟩, by decide⟩
theorem ci_X11_undo : Cond.instanceMethod mX11_undo.1 ∈ ax_U := ax_in 817 (by decide +kernel) rfl
theorem ce_X11_undo : Cond.selects mX11_undo.1.cls mX11_undo.1 mX11_undo.1 ∈ ax_U := ax_in 818 (by decide +kernel) rfl
theorem cm_X11_image : Cond.initialized mX11_image.1.cls ∈ ax_U ∧ Cond.code mX11_image.1 mX11_image.2.1 mX11_image.2.2.1 mX11_image.2.2.2 ∈ ax_U ∧ (mX11_image.1.cls ≠ "java/lang/invoke/MethodHandle" ∧ mX11_image.1.cls ≠ "java/lang/invoke/VarHandle" ∧ (parseMethodDescriptor mX11_image.1.desc).map (fun d => d.parameters.length) = some 0) ∧ mX11_image.2.2.1 ≤ 40 := ⟨ax_in 1 (by decide +kernel) rfl, ax_in 831 (by decide +kernel) rfl, ⟨by decide +kernel, by decide +kernel, by decide +kernel⟩, by decide⟩
theorem ci_X11_image : Cond.instanceMethod mX11_image.1 ∈ ax_U := ax_in 829 (by decide +kernel) rfl
theorem ce_X11_image : Cond.selects mX11_image.1.cls mX11_image.1 mX11_image.1 ∈ ax_U := ax_in 830 (by decide +kernel) rfl
theorem cm_X11_back : Cond.initialized mX11_back.1.cls ∈ ax_U ∧ Cond.code mX11_back.1 mX11_back.2.1 mX11_back.2.2.1 mX11_back.2.2.2 ∈ ax_U ∧ (mX11_back.1.cls ≠ "java/lang/invoke/MethodHandle" ∧ mX11_back.1.cls ≠ "java/lang/invoke/VarHandle" ∧ (parseMethodDescriptor mX11_back.1.desc).map (fun d => d.parameters.length) = some 0) ∧ mX11_back.2.2.1 ≤ 40 := ⟨ax_in 1 (by decide +kernel) rfl, ax_in 841 (by decide +kernel) rfl, ⟨by decide +kernel, by decide +kernel, by decide +kernel⟩, by decide⟩
theorem ci_X11_back : Cond.instanceMethod mX11_back.1 ∈ ax_U := ax_in 839 (by decide +kernel) rfl
theorem ce_X11_back : Cond.selects mX11_back.1.cls mX11_back.1 mX11_back.1 ∈ ax_U := ax_in 840 (by decide +kernel) rfl
theorem cm_X11_keeps : Cond.initialized mX11_keeps.1.cls ∈ ax_U ∧ Cond.code mX11_keeps.1 mX11_keeps.2.1 mX11_keeps.2.2.1 mX11_keeps.2.2.2 ∈ ax_U ∧ (mX11_keeps.1.cls ≠ "java/lang/invoke/MethodHandle" ∧ mX11_keeps.1.cls ≠ "java/lang/invoke/VarHandle" ∧ (parseMethodDescriptor mX11_keeps.1.desc).map (fun d => d.parameters.length) = some 3) ∧ mX11_keeps.2.2.1 ≤ 40 := ⟨ax_in 1 (by decide +kernel) rfl, ax_in 852 (by decide +kernel) rfl, ⟨by decide +kernel, by decide +kernel, by decide +kernel⟩, by decide⟩
theorem ci_X11_keeps : Cond.instanceMethod mX11_keeps.1 ∈ ax_U := ax_in 850 (by decide +kernel) rfl
theorem ce_X11_keeps : Cond.selects mX11_keeps.1.cls mX11_keeps.1 mX11_keeps.1 ∈ ax_U := ax_in 851 (by decide +kernel) rfl
theorem cm_X11_burning : Cond.initialized mX11_burning.1.cls ∈ ax_U ∧ Cond.code mX11_burning.1 mX11_burning.2.1 mX11_burning.2.2.1 mX11_burning.2.2.2 ∈ ax_U ∧ (mX11_burning.1.cls ≠ "java/lang/invoke/MethodHandle" ∧ mX11_burning.1.cls ≠ "java/lang/invoke/VarHandle" ∧ (parseMethodDescriptor mX11_burning.1.desc).map (fun d => d.parameters.length) = some 2) ∧ mX11_burning.2.2.1 ≤ 40 := ⟨ax_in 1 (by decide +kernel) rfl, ax_in 856 (by decide +kernel) rfl, ⟨by decide +kernel, by decide +kernel, by decide +kernel⟩, by decide⟩
theorem ci_X11_burning : Cond.instanceMethod mX11_burning.1 ∈ ax_U := ax_in 854 (by decide +kernel) rfl
theorem ce_X11_burning : Cond.selects mX11_burning.1.cls mX11_burning.1 mX11_burning.1 ∈ ax_U := ax_in 855 (by decide +kernel) rfl
theorem cm_X11_lost : Cond.initialized mX11_lost.1.cls ∈ ax_U ∧ Cond.code mX11_lost.1 mX11_lost.2.1 mX11_lost.2.2.1 mX11_lost.2.2.2 ∈ ax_U ∧ (mX11_lost.1.cls ≠ "java/lang/invoke/MethodHandle" ∧ mX11_lost.1.cls ≠ "java/lang/invoke/VarHandle" ∧ (parseMethodDescriptor mX11_lost.1.desc).map (fun d => d.parameters.length) = some 2) ∧ mX11_lost.2.2.1 ≤ 40 := ⟨ax_in 1 (by decide +kernel) rfl, ax_in 860 (by decide +kernel) rfl, ⟨by decide +kernel, by decide +kernel, by decide +kernel⟩, by decide⟩
theorem ci_X11_lost : Cond.instanceMethod mX11_lost.1 ∈ ax_U := ax_in 858 (by decide +kernel) rfl
theorem ce_X11_lost : Cond.selects mX11_lost.1.cls mX11_lost.1 mX11_lost.1 ∈ ax_U := ax_in 859 (by decide +kernel) rfl
theorem cm_X11_marry : Cond.initialized mX11_marry.1.cls ∈ ax_U ∧ Cond.code mX11_marry.1 mX11_marry.2.1 mX11_marry.2.2.1 mX11_marry.2.2.2 ∈ ax_U ∧ (mX11_marry.1.cls ≠ "java/lang/invoke/MethodHandle" ∧ mX11_marry.1.cls ≠ "java/lang/invoke/VarHandle" ∧ (parseMethodDescriptor mX11_marry.1.desc).map (fun d => d.parameters.length) = some 3) ∧ mX11_marry.2.2.1 ≤ 40 := ⟨ax_in 1 (by decide +kernel) rfl, ax_in 864 (by decide +kernel) rfl, ⟨by decide +kernel, by decide +kernel, by decide +kernel⟩, by decide⟩
theorem ci_X11_marry : Cond.instanceMethod mX11_marry.1 ∈ ax_U := ax_in 862 (by decide +kernel) rfl
theorem ce_X11_marry : Cond.selects mX11_marry.1.cls mX11_marry.1 mX11_marry.1 ∈ ax_U := ax_in 863 (by decide +kernel) rfl
theorem cm_X11_parting : Cond.initialized mX11_parting.1.cls ∈ ax_U ∧ Cond.code mX11_parting.1 mX11_parting.2.1 mX11_parting.2.2.1 mX11_parting.2.2.2 ∈ ax_U ∧ (mX11_parting.1.cls ≠ "java/lang/invoke/MethodHandle" ∧ mX11_parting.1.cls ≠ "java/lang/invoke/VarHandle" ∧ (parseMethodDescriptor mX11_parting.1.desc).map (fun d => d.parameters.length) = some 3) ∧ mX11_parting.2.2.1 ≤ 40 := ⟨ax_in 1 (by decide +kernel) rfl, ax_in 877 (by decide +kernel) rfl, ⟨by decide +kernel, by decide +kernel, by decide +kernel⟩, by decide⟩
theorem ci_X11_parting : Cond.instanceMethod mX11_parting.1 ∈ ax_U := ax_in 875 (by decide +kernel) rfl
theorem ce_X11_parting : Cond.selects mX11_parting.1.cls mX11_parting.1 mX11_parting.1 ∈ ax_U := ax_in 876 (by decide +kernel) rfl
theorem cm_X11_stands : Cond.initialized mX11_stands.1.cls ∈ ax_U ∧ Cond.code mX11_stands.1 mX11_stands.2.1 mX11_stands.2.2.1 mX11_stands.2.2.2 ∈ ax_U ∧ (mX11_stands.1.cls ≠ "java/lang/invoke/MethodHandle" ∧ mX11_stands.1.cls ≠ "java/lang/invoke/VarHandle" ∧ (parseMethodDescriptor mX11_stands.1.desc).map (fun d => d.parameters.length) = some 1) ∧ mX11_stands.2.2.1 ≤ 40 := ⟨ax_in 1 (by decide +kernel) rfl, ax_in 891 (by decide +kernel) rfl, ⟨by decide +kernel, by decide +kernel, by decide +kernel⟩, by decide⟩
theorem ci_X11_stands : Cond.instanceMethod mX11_stands.1 ∈ ax_U := ax_in 889 (by decide +kernel) rfl
theorem ce_X11_stands : Cond.selects mX11_stands.1.cls mX11_stands.1 mX11_stands.1 ∈ ax_U := ax_in 890 (by decide +kernel) rfl
theorem cm_X11_earth : Cond.initialized mX11_earth.1.cls ∈ ax_U ∧ Cond.code mX11_earth.1 mX11_earth.2.1 mX11_earth.2.2.1 mX11_earth.2.2.2 ∈ ax_U ∧ (mX11_earth.1.cls ≠ "java/lang/invoke/MethodHandle" ∧ mX11_earth.1.cls ≠ "java/lang/invoke/VarHandle" ∧ (parseMethodDescriptor mX11_earth.1.desc).map (fun d => d.parameters.length) = some 0) ∧ mX11_earth.2.2.1 ≤ 40 := ⟨ax_in 1 (by decide +kernel) rfl, ax_in 907 (by decide +kernel) rfl, ⟨by decide +kernel, by decide +kernel, by decide +kernel⟩, by decide⟩
theorem ci_X11_earth : Cond.instanceMethod mX11_earth.1 ∈ ax_U := ax_in 905 (by decide +kernel) rfl
theorem ce_X11_earth : Cond.selects mX11_earth.1.cls mX11_earth.1 mX11_earth.1 ∈ ax_U := ax_in 906 (by decide +kernel) rfl
theorem cm_X11_couples : Cond.initialized mX11_couples.1.cls ∈ ax_U ∧ Cond.code mX11_couples.1 mX11_couples.2.1 mX11_couples.2.2.1 mX11_couples.2.2.2 ∈ ax_U ∧ (mX11_couples.1.cls ≠ "java/lang/invoke/MethodHandle" ∧ mX11_couples.1.cls ≠ "java/lang/invoke/VarHandle" ∧ (parseMethodDescriptor mX11_couples.1.desc).map (fun d => d.parameters.length) = some 1) ∧ mX11_couples.2.2.1 ≤ 40 := ⟨ax_in 1 (by decide +kernel) rfl, ax_in 927 (by decide +kernel) rfl, ⟨by decide +kernel, by decide +kernel, by decide +kernel⟩, by decide⟩
theorem ci_X11_couples : Cond.instanceMethod mX11_couples.1 ∈ ax_U := ax_in 925 (by decide +kernel) rfl
theorem ce_X11_couples : Cond.selects mX11_couples.1.cls mX11_couples.1 mX11_couples.1 ∈ ax_U := ax_in 926 (by decide +kernel) rfl
theorem cm_X11_single : Cond.initialized mX11_single.1.cls ∈ ax_U ∧ Cond.code mX11_single.1 mX11_single.2.1 mX11_single.2.2.1 mX11_single.2.2.2 ∈ ax_U ∧ (mX11_single.1.cls ≠ "java/lang/invoke/MethodHandle" ∧ mX11_single.1.cls ≠ "java/lang/invoke/VarHandle" ∧ (parseMethodDescriptor mX11_single.1.desc).map (fun d => d.parameters.length) = some 0) ∧ mX11_single.2.2.1 ≤ 40 := ⟨ax_in 1 (by decide +kernel) rfl, ax_in 945 (by decide +kernel) rfl, ⟨by decide +kernel, by decide +kernel, by decide +kernel⟩, by decide⟩
theorem ci_X11_single : Cond.instanceMethod mX11_single.1 ∈ ax_U := ax_in 943 (by decide +kernel) rfl
theorem ce_X11_single : Cond.selects mX11_single.1.cls mX11_single.1 mX11_single.1 ∈ ax_U := ax_in 944 (by decide +kernel) rfl
theorem cm_X11_town : Cond.initialized mX11_town.1.cls ∈ ax_U ∧ Cond.code mX11_town.1 mX11_town.2.1 mX11_town.2.2.1 mX11_town.2.2.2 ∈ ax_U ∧ (mX11_town.1.cls ≠ "java/lang/invoke/MethodHandle" ∧ mX11_town.1.cls ≠ "java/lang/invoke/VarHandle" ∧ (parseMethodDescriptor mX11_town.1.desc).map (fun d => d.parameters.length) = some 1) ∧ mX11_town.2.2.1 ≤ 40 := ⟨ax_in 1 (by decide +kernel) rfl, ax_in 950 (by decide +kernel) rfl, ⟨by decide +kernel, by decide +kernel, by decide +kernel⟩, by decide⟩
theorem ci_X11_town : Cond.instanceMethod mX11_town.1 ∈ ax_U := ax_in 948 (by decide +kernel) rfl
theorem ce_X11_town : Cond.selects mX11_town.1.cls mX11_town.1 mX11_town.1 ∈ ax_U := ax_in 949 (by decide +kernel) rfl
theorem cm_X11_net : Cond.initialized mX11_net.1.cls ∈ ax_U ∧ Cond.code mX11_net.1 mX11_net.2.1 mX11_net.2.2.1 mX11_net.2.2.2 ∈ ax_U ∧ (mX11_net.1.cls ≠ "java/lang/invoke/MethodHandle" ∧ mX11_net.1.cls ≠ "java/lang/invoke/VarHandle" ∧ (parseMethodDescriptor mX11_net.1.desc).map (fun d => d.parameters.length) = some 1) ∧ mX11_net.2.2.1 ≤ 40 := ⟨ax_in 1 (by decide +kernel) rfl, ax_in 958 (by decide +kernel) rfl, ⟨by decide +kernel, by decide +kernel, by decide +kernel⟩, by decide⟩
theorem ci_X11_net : Cond.instanceMethod mX11_net.1 ∈ ax_U := ax_in 956 (by decide +kernel) rfl
theorem ce_X11_net : Cond.selects mX11_net.1.cls mX11_net.1 mX11_net.1 ∈ ax_U := ax_in 957 (by decide +kernel) rfl
theorem cm_X11_far : Cond.initialized mX11_far.1.cls ∈ ax_U ∧ Cond.code mX11_far.1 mX11_far.2.1 mX11_far.2.2.1 mX11_far.2.2.2 ∈ ax_U ∧ (mX11_far.1.cls ≠ "java/lang/invoke/MethodHandle" ∧ mX11_far.1.cls ≠ "java/lang/invoke/VarHandle" ∧ (parseMethodDescriptor mX11_far.1.desc).map (fun d => d.parameters.length) = some 2) ∧ mX11_far.2.2.1 ≤ 40 := ⟨ax_in 1 (by decide +kernel) rfl, ax_in 970 (by decide +kernel) rfl, ⟨by decide +kernel, by decide +kernel, by decide +kernel⟩, by decide⟩
theorem ci_X11_far : Cond.instanceMethod mX11_far.1 ∈ ax_U := ax_in 968 (by decide +kernel) rfl
theorem ce_X11_far : Cond.selects mX11_far.1.cls mX11_far.1 mX11_far.1 ∈ ax_U := ax_in 969 (by decide +kernel) rfl
theorem cm_X11_most : Cond.initialized mX11_most.1.cls ∈ ax_U ∧ Cond.code mX11_most.1 mX11_most.2.1 mX11_most.2.2.1 mX11_most.2.2.2 ∈ ax_U ∧ (mX11_most.1.cls ≠ "java/lang/invoke/MethodHandle" ∧ mX11_most.1.cls ≠ "java/lang/invoke/VarHandle" ∧ (parseMethodDescriptor mX11_most.1.desc).map (fun d => d.parameters.length) = some 1) ∧ mX11_most.2.2.1 ≤ 40 := ⟨ax_in 1 (by decide +kernel) rfl, ax_in 975 (by decide +kernel) rfl, ⟨by decide +kernel, by decide +kernel, by decide +kernel⟩, by decide⟩
theorem ci_X11_most : Cond.instanceMethod mX11_most.1 ∈ ax_U := ax_in 973 (by decide +kernel) rfl
theorem ce_X11_most : Cond.selects mX11_most.1.cls mX11_most.1 mX11_most.1 ∈ ax_U := ax_in 974 (by decide +kernel) rfl
theorem cm_X11_game : Cond.initialized mX11_game.1.cls ∈ ax_U ∧ Cond.code mX11_game.1 mX11_game.2.1 mX11_game.2.2.1 mX11_game.2.2.2 ∈ ax_U ∧ (mX11_game.1.cls ≠ "java/lang/invoke/MethodHandle" ∧ mX11_game.1.cls ≠ "java/lang/invoke/VarHandle" ∧ (parseMethodDescriptor mX11_game.1.desc).map (fun d => d.parameters.length) = some 6) ∧ mX11_game.2.2.1 ≤ 40 := ⟨ax_in 1 (by decide +kernel) rfl, ax_in 987 (by decide +kernel) rfl, ⟨by decide +kernel, by decide +kernel, by decide +kernel⟩, by decide⟩
theorem ci_X11_game : Cond.instanceMethod mX11_game.1 ∈ ax_U := ax_in 985 (by decide +kernel) rfl
theorem ce_X11_game : Cond.selects mX11_game.1.cls mX11_game.1 mX11_game.1 ∈ ax_U := ax_in 986 (by decide +kernel) rfl
theorem cm_X11_rests : Cond.initialized mX11_rests.1.cls ∈ ax_U ∧ Cond.code mX11_rests.1 mX11_rests.2.1 mX11_rests.2.2.1 mX11_rests.2.2.2 ∈ ax_U ∧ (mX11_rests.1.cls ≠ "java/lang/invoke/MethodHandle" ∧ mX11_rests.1.cls ≠ "java/lang/invoke/VarHandle" ∧ (parseMethodDescriptor mX11_rests.1.desc).map (fun d => d.parameters.length) = some 4) ∧ mX11_rests.2.2.1 ≤ 40 := ⟨ax_in 1 (by decide +kernel) rfl, ax_in 1004 (by decide +kernel) rfl, ⟨by decide +kernel, by decide +kernel, by decide +kernel⟩, by decide⟩
theorem ci_X11_rests : Cond.instanceMethod mX11_rests.1 ∈ ax_U := ax_in 1002 (by decide +kernel) rfl
theorem ce_X11_rests : Cond.selects mX11_rests.1.cls mX11_rests.1 mX11_rests.1 ∈ ax_U := ax_in 1003 (by decide +kernel) rfl
theorem cm_X11_leaves : Cond.initialized mX11_leaves.1.cls ∈ ax_U ∧ Cond.code mX11_leaves.1 mX11_leaves.2.1 mX11_leaves.2.2.1 mX11_leaves.2.2.2 ∈ ax_U ∧ (mX11_leaves.1.cls ≠ "java/lang/invoke/MethodHandle" ∧ mX11_leaves.1.cls ≠ "java/lang/invoke/VarHandle" ∧ (parseMethodDescriptor mX11_leaves.1.desc).map (fun d => d.parameters.length) = some 1) ∧ mX11_leaves.2.2.1 ≤ 40 := ⟨ax_in 1 (by decide +kernel) rfl, ax_in 1012 (by decide +kernel) rfl, ⟨by decide +kernel, by decide +kernel, by decide +kernel⟩, by decide⟩
theorem ci_X11_leaves : Cond.instanceMethod mX11_leaves.1 ∈ ax_U := ax_in 1010 (by decide +kernel) rfl
theorem ce_X11_leaves : Cond.selects mX11_leaves.1.cls mX11_leaves.1 mX11_leaves.1 ∈ ax_U := ax_in 1011 (by decide +kernel) rfl
theorem cm_X11_scorched : Cond.initialized mX11_scorched.1.cls ∈ ax_U ∧ Cond.code mX11_scorched.1 mX11_scorched.2.1 mX11_scorched.2.2.1 mX11_scorched.2.2.2 ∈ ax_U ∧ (mX11_scorched.1.cls ≠ "java/lang/invoke/MethodHandle" ∧ mX11_scorched.1.cls ≠ "java/lang/invoke/VarHandle" ∧ (parseMethodDescriptor mX11_scorched.1.desc).map (fun d => d.parameters.length) = some 4) ∧ mX11_scorched.2.2.1 ≤ 40 := ⟨ax_in 1 (by decide +kernel) rfl, ax_in 1020 (by decide +kernel) rfl, ⟨by decide +kernel, by decide +kernel, by decide +kernel⟩, by decide⟩
theorem ci_X11_scorched : Cond.instanceMethod mX11_scorched.1 ∈ ax_U := ax_in 1018 (by decide +kernel) rfl
theorem ce_X11_scorched : Cond.selects mX11_scorched.1.cls mX11_scorched.1 mX11_scorched.1 ∈ ax_U := ax_in 1019 (by decide +kernel) rfl
theorem cm_X11_who : Cond.initialized mX11_who.1.cls ∈ ax_U ∧ Cond.code mX11_who.1 mX11_who.2.1 mX11_who.2.2.1 mX11_who.2.2.2 ∈ ax_U ∧ (mX11_who.1.cls ≠ "java/lang/invoke/MethodHandle" ∧ mX11_who.1.cls ≠ "java/lang/invoke/VarHandle" ∧ (parseMethodDescriptor mX11_who.1.desc).map (fun d => d.parameters.length) = some 2) ∧ mX11_who.2.2.1 ≤ 40 := ⟨ax_in 1 (by decide +kernel) rfl, ax_in 1028 (by decide +kernel) rfl, ⟨by decide +kernel, by decide +kernel, by decide +kernel⟩, by decide⟩
theorem ci_X11_who : Cond.instanceMethod mX11_who.1 ∈ ax_U := ax_in 1026 (by decide +kernel) rfl
theorem ce_X11_who : Cond.selects mX11_who.1.cls mX11_who.1 mX11_who.1 ∈ ax_U := ax_in 1027 (by decide +kernel) rfl
theorem cm_X11_sure : Cond.initialized mX11_sure.1.cls ∈ ax_U ∧ Cond.code mX11_sure.1 mX11_sure.2.1 mX11_sure.2.2.1 mX11_sure.2.2.2 ∈ ax_U ∧ (mX11_sure.1.cls ≠ "java/lang/invoke/MethodHandle" ∧ mX11_sure.1.cls ≠ "java/lang/invoke/VarHandle" ∧ (parseMethodDescriptor mX11_sure.1.desc).map (fun d => d.parameters.length) = some 1) ∧ mX11_sure.2.2.1 ≤ 40 := ⟨ax_in 1 (by decide +kernel) rfl, ax_in 1040 (by decide +kernel) rfl, ⟨by decide +kernel, by decide +kernel, by decide +kernel⟩, by decide⟩
theorem ci_X11_sure : Cond.instanceMethod mX11_sure.1 ∈ ax_U := ax_in 1038 (by decide +kernel) rfl
theorem ce_X11_sure : Cond.selects mX11_sure.1.cls mX11_sure.1 mX11_sure.1 ∈ ax_U := ax_in 1039 (by decide +kernel) rfl
theorem cm_X11_best : Cond.initialized mX11_best.1.cls ∈ ax_U ∧ Cond.code mX11_best.1 mX11_best.2.1 mX11_best.2.2.1 mX11_best.2.2.2 ∈ ax_U ∧ (mX11_best.1.cls ≠ "java/lang/invoke/MethodHandle" ∧ mX11_best.1.cls ≠ "java/lang/invoke/VarHandle" ∧ (parseMethodDescriptor mX11_best.1.desc).map (fun d => d.parameters.length) = some 1) ∧ mX11_best.2.2.1 ≤ 40 := ⟨ax_in 1 (by decide +kernel) rfl, ax_in 1044 (by decide +kernel) rfl, ⟨by decide +kernel, by decide +kernel, by decide +kernel⟩, by decide⟩
theorem ci_X11_best : Cond.instanceMethod mX11_best.1 ∈ ax_U := ax_in 1042 (by decide +kernel) rfl
theorem ce_X11_best : Cond.selects mX11_best.1.cls mX11_best.1 mX11_best.1 ∈ ax_U := ax_in 1043 (by decide +kernel) rfl
theorem cm_X11_odds : Cond.initialized mX11_odds.1.cls ∈ ax_U ∧ Cond.code mX11_odds.1 mX11_odds.2.1 mX11_odds.2.2.1 mX11_odds.2.2.2 ∈ ax_U ∧ (mX11_odds.1.cls ≠ "java/lang/invoke/MethodHandle" ∧ mX11_odds.1.cls ≠ "java/lang/invoke/VarHandle" ∧ (parseMethodDescriptor mX11_odds.1.desc).map (fun d => d.parameters.length) = some 2) ∧ mX11_odds.2.2.1 ≤ 40 := ⟨ax_in 1 (by decide +kernel) rfl, ax_in 1053 (by decide +kernel) rfl, ⟨by decide +kernel, by decide +kernel, by decide +kernel⟩, by decide⟩
theorem ci_X11_odds : Cond.instanceMethod mX11_odds.1 ∈ ax_U := ax_in 1051 (by decide +kernel) rfl
theorem ce_X11_odds : Cond.selects mX11_odds.1.cls mX11_odds.1 mX11_odds.1 ∈ ax_U := ax_in 1052 (by decide +kernel) rfl
theorem cm_X11_premium : Cond.initialized mX11_premium.1.cls ∈ ax_U ∧ Cond.code mX11_premium.1 mX11_premium.2.1 mX11_premium.2.2.1 mX11_premium.2.2.2 ∈ ax_U ∧ (mX11_premium.1.cls ≠ "java/lang/invoke/MethodHandle" ∧ mX11_premium.1.cls ≠ "java/lang/invoke/VarHandle" ∧ (parseMethodDescriptor mX11_premium.1.desc).map (fun d => d.parameters.length) = some 3) ∧ mX11_premium.2.2.1 ≤ 40 := ⟨ax_in 1 (by decide +kernel) rfl, ax_in 1062 (by decide +kernel) rfl, ⟨by decide +kernel, by decide +kernel, by decide +kernel⟩, by decide⟩
theorem ci_X11_premium : Cond.instanceMethod mX11_premium.1 ∈ ax_U := ax_in 1060 (by decide +kernel) rfl
theorem ce_X11_premium : Cond.selects mX11_premium.1.cls mX11_premium.1 mX11_premium.1 ∈ ax_U := ax_in 1061 (by decide +kernel) rfl
theorem cm_X11_test : Cond.initialized mX11_test.1.cls ∈ ax_U ∧ Cond.code mX11_test.1 mX11_test.2.1 mX11_test.2.2.1 mX11_test.2.2.2 ∈ ax_U ∧ (mX11_test.1.cls ≠ "java/lang/invoke/MethodHandle" ∧ mX11_test.1.cls ≠ "java/lang/invoke/VarHandle" ∧ (parseMethodDescriptor mX11_test.1.desc).map (fun d => d.parameters.length) = some 2) ∧ mX11_test.2.2.1 ≤ 40 := ⟨ax_in 1 (by decide +kernel) rfl, ax_in 1066 (by decide +kernel) rfl, ⟨by decide +kernel, by decide +kernel, by decide +kernel⟩, by decide⟩
theorem ci_X11_test : Cond.instanceMethod mX11_test.1 ∈ ax_U := ax_in 1064 (by decide +kernel) rfl
theorem ce_X11_test : Cond.selects mX11_test.1.cls mX11_test.1 mX11_test.1 ∈ ax_U := ax_in 1065 (by decide +kernel) rfl
theorem cm_X11_stroke : Cond.initialized mX11_stroke.1.cls ∈ ax_U ∧ Cond.code mX11_stroke.1 mX11_stroke.2.1 mX11_stroke.2.2.1 mX11_stroke.2.2.2 ∈ ax_U ∧ (mX11_stroke.1.cls ≠ "java/lang/invoke/MethodHandle" ∧ mX11_stroke.1.cls ≠ "java/lang/invoke/VarHandle" ∧ (parseMethodDescriptor mX11_stroke.1.desc).map (fun d => d.parameters.length) = some 0) ∧ mX11_stroke.2.2.1 ≤ 40 := ⟨ax_in 1 (by decide +kernel) rfl, ax_in 1074 (by decide +kernel) rfl, ⟨by decide +kernel, by decide +kernel, by decide +kernel⟩, by decide⟩
theorem ci_X11_stroke : Cond.instanceMethod mX11_stroke.1 ∈ ax_U := ax_in 1072 (by decide +kernel) rfl
theorem ce_X11_stroke : Cond.selects mX11_stroke.1.cls mX11_stroke.1 mX11_stroke.1 ∈ ax_U := ax_in 1073 (by decide +kernel) rfl
theorem cm_X11_bitOf : Cond.initialized mX11_bitOf.1.cls ∈ ax_U ∧ Cond.code mX11_bitOf.1 mX11_bitOf.2.1 mX11_bitOf.2.2.1 mX11_bitOf.2.2.2 ∈ ax_U ∧ (mX11_bitOf.1.cls ≠ "java/lang/invoke/MethodHandle" ∧ mX11_bitOf.1.cls ≠ "java/lang/invoke/VarHandle" ∧ (parseMethodDescriptor mX11_bitOf.1.desc).map (fun d => d.parameters.length) = some 2) ∧ mX11_bitOf.2.2.1 ≤ 40 := ⟨ax_in 1 (by decide +kernel) rfl, ax_in 468 (by decide +kernel) rfl, ⟨by decide +kernel, by decide +kernel, by decide +kernel⟩, by decide⟩
theorem cs_X11_bitOf : Cond.static mX11_bitOf.1 ∈ ax_U := ax_in 467 (by decide +kernel) rfl
theorem cm_X11_isBit : Cond.initialized mX11_isBit.1.cls ∈ ax_U ∧ Cond.code mX11_isBit.1 mX11_isBit.2.1 mX11_isBit.2.2.1 mX11_isBit.2.2.2 ∈ ax_U ∧ (mX11_isBit.1.cls ≠ "java/lang/invoke/MethodHandle" ∧ mX11_isBit.1.cls ≠ "java/lang/invoke/VarHandle" ∧ (parseMethodDescriptor mX11_isBit.1.desc).map (fun d => d.parameters.length) = some 1) ∧ mX11_isBit.2.2.1 ≤ 40 := ⟨ax_in 1 (by decide +kernel) rfl, ax_in 433 (by decide +kernel) rfl, ⟨by decide +kernel, by decide +kernel, by decide +kernel⟩, by decide⟩
theorem cs_X11_isBit : Cond.static mX11_isBit.1 ∈ ax_U := ax_in 432 (by decide +kernel) rfl
theorem cm_X11_isStroke : Cond.initialized mX11_isStroke.1.cls ∈ ax_U ∧ Cond.code mX11_isStroke.1 mX11_isStroke.2.1 mX11_isStroke.2.2.1 mX11_isStroke.2.2.2 ∈ ax_U ∧ (mX11_isStroke.1.cls ≠ "java/lang/invoke/MethodHandle" ∧ mX11_isStroke.1.cls ≠ "java/lang/invoke/VarHandle" ∧ (parseMethodDescriptor mX11_isStroke.1.desc).map (fun d => d.parameters.length) = some 1) ∧ mX11_isStroke.2.2.1 ≤ 40 := ⟨ax_in 1 (by decide +kernel) rfl, ax_in 641 (by decide +kernel) rfl, ⟨by decide +kernel, by decide +kernel, by decide +kernel⟩, by decide⟩
theorem cs_X11_isStroke : Cond.static mX11_isStroke.1 ∈ ax_U := ax_in 640 (by decide +kernel) rfl
theorem cm_X11_bytesOf : Cond.initialized mX11_bytesOf.1.cls ∈ ax_U ∧ Cond.code mX11_bytesOf.1 mX11_bytesOf.2.1 mX11_bytesOf.2.2.1 mX11_bytesOf.2.2.2 ∈ ax_U ∧ (mX11_bytesOf.1.cls ≠ "java/lang/invoke/MethodHandle" ∧ mX11_bytesOf.1.cls ≠ "java/lang/invoke/VarHandle" ∧ (parseMethodDescriptor mX11_bytesOf.1.desc).map (fun d => d.parameters.length) = some 1) ∧ mX11_bytesOf.2.2.1 ≤ 40 := ⟨ax_in 1 (by decide +kernel) rfl, ax_in 418 (by decide +kernel) rfl, ⟨by decide +kernel, by decide +kernel, by decide +kernel⟩, by decide⟩
theorem cs_X11_bytesOf : Cond.static mX11_bytesOf.1 ∈ ax_U := ax_in 417 (by decide +kernel) rfl
theorem cm_X11_tapeReads : Cond.initialized mX11_tapeReads.1.cls ∈ ax_U ∧ Cond.code mX11_tapeReads.1 mX11_tapeReads.2.1 mX11_tapeReads.2.2.1 mX11_tapeReads.2.2.2 ∈ ax_U ∧ (mX11_tapeReads.1.cls ≠ "java/lang/invoke/MethodHandle" ∧ mX11_tapeReads.1.cls ≠ "java/lang/invoke/VarHandle" ∧ (parseMethodDescriptor mX11_tapeReads.1.desc).map (fun d => d.parameters.length) = some 1) ∧ mX11_tapeReads.2.2.1 ≤ 40 := ⟨ax_in 1 (by decide +kernel) rfl, ax_in 437 (by decide +kernel) rfl, ⟨by decide +kernel, by decide +kernel, by decide +kernel⟩, by decide⟩
theorem ci_X11_tapeReads : Cond.instanceMethod mX11_tapeReads.1 ∈ ax_U := ax_in 436 (by decide +kernel) rfl
theorem ce_X11_tapeReads : Cond.selects mX11_tapeReads.1.cls mX11_tapeReads.1 mX11_tapeReads.1 ∈ ax_U := ax_inp (n := 20) 0 (by decide +kernel) rfl
theorem cm_X11_hasBelt : Cond.initialized mX11_hasBelt.1.cls ∈ ax_U ∧ Cond.code mX11_hasBelt.1 mX11_hasBelt.2.1 mX11_hasBelt.2.2.1 mX11_hasBelt.2.2.2 ∈ ax_U ∧ (mX11_hasBelt.1.cls ≠ "java/lang/invoke/MethodHandle" ∧ mX11_hasBelt.1.cls ≠ "java/lang/invoke/VarHandle" ∧ (parseMethodDescriptor mX11_hasBelt.1.desc).map (fun d => d.parameters.length) = some 0) ∧ mX11_hasBelt.2.2.1 ≤ 40 := ⟨ax_in 1 (by decide +kernel) rfl, ax_in 784 (by decide +kernel) rfl, ⟨by decide +kernel, by decide +kernel, by decide +kernel⟩, by decide⟩
theorem ci_X11_hasBelt : Cond.instanceMethod mX11_hasBelt.1 ∈ ax_U := ax_in 783 (by decide +kernel) rfl
theorem ce_X11_hasBelt : Cond.selects mX11_hasBelt.1.cls mX11_hasBelt.1 mX11_hasBelt.1 ∈ ax_U := ax_inp (n := 20) 33 (by decide +kernel) rfl
theorem cm_X11_isHouse : Cond.initialized mX11_isHouse.1.cls ∈ ax_U ∧ Cond.code mX11_isHouse.1 mX11_isHouse.2.1 mX11_isHouse.2.2.1 mX11_isHouse.2.2.2 ∈ ax_U ∧ (mX11_isHouse.1.cls ≠ "java/lang/invoke/MethodHandle" ∧ mX11_isHouse.1.cls ≠ "java/lang/invoke/VarHandle" ∧ (parseMethodDescriptor mX11_isHouse.1.desc).map (fun d => d.parameters.length) = some 1) ∧ mX11_isHouse.2.2.1 ≤ 40 := ⟨ax_in 1 (by decide +kernel) rfl, ax_in 634 (by decide +kernel) rfl, ⟨by decide +kernel, by decide +kernel, by decide +kernel⟩, by decide⟩
theorem ci_X11_isHouse : Cond.instanceMethod mX11_isHouse.1 ∈ ax_U := ax_in 633 (by decide +kernel) rfl
theorem ce_X11_isHouse : Cond.selects mX11_isHouse.1.cls mX11_isHouse.1 mX11_isHouse.1 ∈ ax_U := ax_inp (n := 20) 22 (by decide +kernel) rfl
theorem cm_X11_areTwoHouses : Cond.initialized mX11_areTwoHouses.1.cls ∈ ax_U ∧ Cond.code mX11_areTwoHouses.1 mX11_areTwoHouses.2.1 mX11_areTwoHouses.2.2.1 mX11_areTwoHouses.2.2.2 ∈ ax_U ∧ (mX11_areTwoHouses.1.cls ≠ "java/lang/invoke/MethodHandle" ∧ mX11_areTwoHouses.1.cls ≠ "java/lang/invoke/VarHandle" ∧ (parseMethodDescriptor mX11_areTwoHouses.1.desc).map (fun d => d.parameters.length) = some 2) ∧ mX11_areTwoHouses.2.2.1 ≤ 40 := ⟨ax_in 1 (by decide +kernel) rfl, ax_in 736 (by decide +kernel) rfl, ⟨by decide +kernel, by decide +kernel, by decide +kernel⟩, by decide⟩
theorem ci_X11_areTwoHouses : Cond.instanceMethod mX11_areTwoHouses.1 ∈ ax_U := ax_in 735 (by decide +kernel) rfl
theorem ce_X11_areTwoHouses : Cond.selects mX11_areTwoHouses.1.cls mX11_areTwoHouses.1 mX11_areTwoHouses.1 ∈ ax_U := ax_inp (n := 20) 32 (by decide +kernel) rfl
theorem cm_X11_isWire : Cond.initialized mX11_isWire.1.cls ∈ ax_U ∧ Cond.code mX11_isWire.1 mX11_isWire.2.1 mX11_isWire.2.2.1 mX11_isWire.2.2.2 ∈ ax_U ∧ (mX11_isWire.1.cls ≠ "java/lang/invoke/MethodHandle" ∧ mX11_isWire.1.cls ≠ "java/lang/invoke/VarHandle" ∧ (parseMethodDescriptor mX11_isWire.1.desc).map (fun d => d.parameters.length) = some 1) ∧ mX11_isWire.2.2.1 ≤ 40 := ⟨ax_in 1 (by decide +kernel) rfl, ax_in 592 (by decide +kernel) rfl, ⟨by decide +kernel, by decide +kernel, by decide +kernel⟩, by decide⟩
theorem ci_X11_isWire : Cond.instanceMethod mX11_isWire.1 ∈ ax_U := ax_in 591 (by decide +kernel) rfl
theorem ce_X11_isWire : Cond.selects mX11_isWire.1.cls mX11_isWire.1 mX11_isWire.1 ∈ ax_U := ax_inp (n := 20) 21 (by decide +kernel) rfl
theorem cm_X11_mayPass : Cond.initialized mX11_mayPass.1.cls ∈ ax_U ∧ Cond.code mX11_mayPass.1 mX11_mayPass.2.1 mX11_mayPass.2.2.1 mX11_mayPass.2.2.2 ∈ ax_U ∧ (mX11_mayPass.1.cls ≠ "java/lang/invoke/MethodHandle" ∧ mX11_mayPass.1.cls ≠ "java/lang/invoke/VarHandle" ∧ (parseMethodDescriptor mX11_mayPass.1.desc).map (fun d => d.parameters.length) = some 1) ∧ mX11_mayPass.2.2.1 ≤ 40 := ⟨ax_in 1 (by decide +kernel) rfl, ax_in 788 (by decide +kernel) rfl, ⟨by decide +kernel, by decide +kernel, by decide +kernel⟩, by decide⟩
theorem ci_X11_mayPass : Cond.instanceMethod mX11_mayPass.1 ∈ ax_U := ax_in 787 (by decide +kernel) rfl
theorem ce_X11_mayPass : Cond.selects mX11_mayPass.1.cls mX11_mayPass.1 mX11_mayPass.1 ∈ ax_U := ax_inp (n := 20) 34 (by decide +kernel) rfl
theorem cm_X11_mayPlay : Cond.initialized mX11_mayPlay.1.cls ∈ ax_U ∧ Cond.code mX11_mayPlay.1 mX11_mayPlay.2.1 mX11_mayPlay.2.2.1 mX11_mayPlay.2.2.2 ∈ ax_U ∧ (mX11_mayPlay.1.cls ≠ "java/lang/invoke/MethodHandle" ∧ mX11_mayPlay.1.cls ≠ "java/lang/invoke/VarHandle" ∧ (parseMethodDescriptor mX11_mayPlay.1.desc).map (fun d => d.parameters.length) = some 3) ∧ mX11_mayPlay.2.2.1 ≤ 40 := ⟨ax_in 1 (by decide +kernel) rfl, ax_in 991 (by decide +kernel) rfl, ⟨by decide +kernel, by decide +kernel, by decide +kernel⟩, by decide⟩
theorem ci_X11_mayPlay : Cond.instanceMethod mX11_mayPlay.1 ∈ ax_U := ax_in 990 (by decide +kernel) rfl
theorem ce_X11_mayPlay : Cond.selects mX11_mayPlay.1.cls mX11_mayPlay.1 mX11_mayPlay.1 ∈ ax_U := ax_inp (n := 20) 49 (by decide +kernel) rfl
theorem cm_X11_couldLay : Cond.initialized mX11_couldLay.1.cls ∈ ax_U ∧ Cond.code mX11_couldLay.1 mX11_couldLay.2.1 mX11_couldLay.2.2.1 mX11_couldLay.2.2.2 ∈ ax_U ∧ (mX11_couldLay.1.cls ≠ "java/lang/invoke/MethodHandle" ∧ mX11_couldLay.1.cls ≠ "java/lang/invoke/VarHandle" ∧ (parseMethodDescriptor mX11_couldLay.1.desc).map (fun d => d.parameters.length) = some 2) ∧ mX11_couldLay.2.2.1 ≤ 40 := ⟨ax_in 1 (by decide +kernel) rfl, ax_in 868 (by decide +kernel) rfl, ⟨by decide +kernel, by decide +kernel, by decide +kernel⟩, by decide⟩
theorem ci_X11_couldLay : Cond.instanceMethod mX11_couldLay.1 ∈ ax_U := ax_in 867 (by decide +kernel) rfl
theorem ce_X11_couldLay : Cond.selects mX11_couldLay.1.cls mX11_couldLay.1 mX11_couldLay.1 ∈ ax_U := ax_inp (n := 20) 37 (by decide +kernel) rfl
theorem cm_X11_refuse : Cond.initialized mX11_refuse.1.cls ∈ ax_U ∧ Cond.code mX11_refuse.1 mX11_refuse.2.1 mX11_refuse.2.2.1 mX11_refuse.2.2.2 ∈ ax_U ∧ (mX11_refuse.1.cls ≠ "java/lang/invoke/MethodHandle" ∧ mX11_refuse.1.cls ≠ "java/lang/invoke/VarHandle" ∧ (parseMethodDescriptor mX11_refuse.1.desc).map (fun d => d.parameters.length) = some 1) ∧ mX11_refuse.2.2.1 ≤ 40 := ⟨ax_in 1 (by decide +kernel) rfl, ax_in 638 (by decide +kernel) rfl, ⟨by decide +kernel, by decide +kernel, by decide +kernel⟩, by decide⟩
theorem ci_X11_refuse : Cond.instanceMethod mX11_refuse.1 ∈ ax_U := ax_in 637 (by decide +kernel) rfl
theorem ce_X11_refuse : Cond.selects mX11_refuse.1.cls mX11_refuse.1 mX11_refuse.1 ∈ ax_U := ax_inp (n := 20) 23 (by decide +kernel) rfl
theorem cm_X11_remember : Cond.initialized mX11_remember.1.cls ∈ ax_U ∧ Cond.code mX11_remember.1 mX11_remember.2.1 mX11_remember.2.2.1 mX11_remember.2.2.2 ∈ ax_U ∧ (mX11_remember.1.cls ≠ "java/lang/invoke/MethodHandle" ∧ mX11_remember.1.cls ≠ "java/lang/invoke/VarHandle" ∧ (parseMethodDescriptor mX11_remember.1.desc).map (fun d => d.parameters.length) = some 0) ∧ mX11_remember.2.2.1 ≤ 40 := ⟨ax_in 1 (by decide +kernel) rfl, ax_in 645 (by decide +kernel) rfl, ⟨by decide +kernel, by decide +kernel, by decide +kernel⟩, by decide⟩
theorem ci_X11_remember : Cond.instanceMethod mX11_remember.1 ∈ ax_U := ax_in 644 (by decide +kernel) rfl
theorem ce_X11_remember : Cond.selects mX11_remember.1.cls mX11_remember.1 mX11_remember.1 ∈ ax_U := ax_inp (n := 20) 24 (by decide +kernel) rfl
theorem cm_X11_strikeNow : Cond.initialized mX11_strikeNow.1.cls ∈ ax_U ∧ Cond.code mX11_strikeNow.1 mX11_strikeNow.2.1 mX11_strikeNow.2.2.1 mX11_strikeNow.2.2.2 ∈ ax_U ∧ (mX11_strikeNow.1.cls ≠ "java/lang/invoke/MethodHandle" ∧ mX11_strikeNow.1.cls ≠ "java/lang/invoke/VarHandle" ∧ (parseMethodDescriptor mX11_strikeNow.1.desc).map (fun d => d.parameters.length) = some 2) ∧ mX11_strikeNow.2.2.1 ≤ 40 := ⟨ax_in 1 (by decide +kernel) rfl, ax_in 659 (by decide +kernel) rfl, ⟨by decide +kernel, by decide +kernel, by decide +kernel⟩, by decide⟩
theorem ci_X11_strikeNow : Cond.instanceMethod mX11_strikeNow.1 ∈ ax_U := ax_in 658 (by decide +kernel) rfl
theorem ce_X11_strikeNow : Cond.selects mX11_strikeNow.1.cls mX11_strikeNow.1 mX11_strikeNow.1 ∈ ax_U := ax_inp (n := 20) 25 (by decide +kernel) rfl
theorem cm_X11_strikeByChance : Cond.initialized mX11_strikeByChance.1.cls ∈ ax_U ∧ Cond.code mX11_strikeByChance.1 mX11_strikeByChance.2.1 mX11_strikeByChance.2.2.1 mX11_strikeByChance.2.2.2 ∈ ax_U ∧ (mX11_strikeByChance.1.cls ≠ "java/lang/invoke/MethodHandle" ∧ mX11_strikeByChance.1.cls ≠ "java/lang/invoke/VarHandle" ∧ (parseMethodDescriptor mX11_strikeByChance.1.desc).map (fun d => d.parameters.length) = some 0) ∧ mX11_strikeByChance.2.2.1 ≤ 40 := ⟨ax_in 1 (by decide +kernel) rfl, ax_in 811 (by decide +kernel) rfl, ⟨by decide +kernel, by decide +kernel, by decide +kernel⟩, by decide⟩
theorem ci_X11_strikeByChance : Cond.instanceMethod mX11_strikeByChance.1 ∈ ax_U := ax_in 810 (by decide +kernel) rfl
theorem ce_X11_strikeByChance : Cond.selects mX11_strikeByChance.1.cls mX11_strikeByChance.1 mX11_strikeByChance.1 ∈ ax_U := ax_inp (n := 20) 36 (by decide +kernel) rfl
theorem cm_X11_draw : Cond.initialized mX11_draw.1.cls ∈ ax_U ∧ Cond.code mX11_draw.1 mX11_draw.2.1 mX11_draw.2.2.1 mX11_draw.2.2.2 ∈ ax_U ∧ (mX11_draw.1.cls ≠ "java/lang/invoke/MethodHandle" ∧ mX11_draw.1.cls ≠ "java/lang/invoke/VarHandle" ∧ (parseMethodDescriptor mX11_draw.1.desc).map (fun d => d.parameters.length) = some 1) ∧ mX11_draw.2.2.1 ≤ 40 := ⟨ax_in 1 (by decide +kernel) rfl, ax_in 805 (by decide +kernel) rfl, ⟨by decide +kernel, by decide +kernel, by decide +kernel⟩, by decide⟩
theorem ci_X11_draw : Cond.instanceMethod mX11_draw.1 ∈ ax_U := ax_in 804 (by decide +kernel) rfl
theorem ce_X11_draw : Cond.selects mX11_draw.1.cls mX11_draw.1 mX11_draw.1 ∈ ax_U := ax_inp (n := 20) 35 (by decide +kernel) rfl
theorem cm_X11_liveWith : Cond.initialized mX11_liveWith.1.cls ∈ ax_U ∧ Cond.code mX11_liveWith.1 mX11_liveWith.2.1 mX11_liveWith.2.2.1 mX11_liveWith.2.2.2 ∈ ax_U ∧ (mX11_liveWith.1.cls ≠ "java/lang/invoke/MethodHandle" ∧ mX11_liveWith.1.cls ≠ "java/lang/invoke/VarHandle" ∧ (parseMethodDescriptor mX11_liveWith.1.desc).map (fun d => d.parameters.length) = some 2) ∧ mX11_liveWith.2.2.1 ≤ 40 := ⟨ax_in 1 (by decide +kernel) rfl, ax_in 872 (by decide +kernel) rfl, ⟨by decide +kernel, by decide +kernel, by decide +kernel⟩, by decide⟩
theorem ci_X11_liveWith : Cond.instanceMethod mX11_liveWith.1 ∈ ax_U := ax_in 871 (by decide +kernel) rfl
theorem ce_X11_liveWith : Cond.selects mX11_liveWith.1.cls mX11_liveWith.1 mX11_liveWith.1 ∈ ax_U := ax_inp (n := 20) 38 (by decide +kernel) rfl
theorem cm_X11_greatestBorne : Cond.initialized mX11_greatestBorne.1.cls ∈ ax_U ∧ Cond.code mX11_greatestBorne.1 mX11_greatestBorne.2.1 mX11_greatestBorne.2.2.1 mX11_greatestBorne.2.2.2 ∈ ax_U ∧ (mX11_greatestBorne.1.cls ≠ "java/lang/invoke/MethodHandle" ∧ mX11_greatestBorne.1.cls ≠ "java/lang/invoke/VarHandle" ∧ (parseMethodDescriptor mX11_greatestBorne.1.desc).map (fun d => d.parameters.length) = some 0) ∧ mX11_greatestBorne.2.2.1 ≤ 40 := ⟨ax_in 1 (by decide +kernel) rfl, ax_in 895 (by decide +kernel) rfl, ⟨by decide +kernel, by decide +kernel, by decide +kernel⟩, by decide⟩
theorem ci_X11_greatestBorne : Cond.instanceMethod mX11_greatestBorne.1 ∈ ax_U := ax_in 894 (by decide +kernel) rfl
theorem ce_X11_greatestBorne : Cond.selects mX11_greatestBorne.1.cls mX11_greatestBorne.1 mX11_greatestBorne.1 ∈ ax_U := ax_inp (n := 20) 40 (by decide +kernel) rfl
theorem cm_X11_weakestBy : Cond.initialized mX11_weakestBy.1.cls ∈ ax_U ∧ Cond.code mX11_weakestBy.1 mX11_weakestBy.2.1 mX11_weakestBy.2.2.1 mX11_weakestBy.2.2.2 ∈ ax_U ∧ (mX11_weakestBy.1.cls ≠ "java/lang/invoke/MethodHandle" ∧ mX11_weakestBy.1.cls ≠ "java/lang/invoke/VarHandle" ∧ (parseMethodDescriptor mX11_weakestBy.1.desc).map (fun d => d.parameters.length) = some 2) ∧ mX11_weakestBy.2.2.1 ≤ 40 := ⟨ax_in 1 (by decide +kernel) rfl, ax_in 903 (by decide +kernel) rfl, ⟨by decide +kernel, by decide +kernel, by decide +kernel⟩, by decide⟩
theorem ci_X11_weakestBy : Cond.instanceMethod mX11_weakestBy.1 ∈ ax_U := ax_in 902 (by decide +kernel) rfl
theorem ce_X11_weakestBy : Cond.selects mX11_weakestBy.1.cls mX11_weakestBy.1 mX11_weakestBy.1 ∈ ax_U := ax_inp (n := 20) 41 (by decide +kernel) rfl
theorem cm_X11_standingAlike : Cond.initialized mX11_standingAlike.1.cls ∈ ax_U ∧ Cond.code mX11_standingAlike.1 mX11_standingAlike.2.1 mX11_standingAlike.2.2.1 mX11_standingAlike.2.2.2 ∈ ax_U ∧ (mX11_standingAlike.1.cls ≠ "java/lang/invoke/MethodHandle" ∧ mX11_standingAlike.1.cls ≠ "java/lang/invoke/VarHandle" ∧ (parseMethodDescriptor mX11_standingAlike.1.desc).map (fun d => d.parameters.length) = some 2) ∧ mX11_standingAlike.2.2.1 ≤ 40 := ⟨ax_in 1 (by decide +kernel) rfl, ax_in 919 (by decide +kernel) rfl, ⟨by decide +kernel, by decide +kernel, by decide +kernel⟩, by decide⟩
theorem ci_X11_standingAlike : Cond.instanceMethod mX11_standingAlike.1 ∈ ax_U := ax_in 918 (by decide +kernel) rfl
theorem ce_X11_standingAlike : Cond.selects mX11_standingAlike.1.cls mX11_standingAlike.1 mX11_standingAlike.1 ∈ ax_U := ax_inp (n := 20) 43 (by decide +kernel) rfl
theorem cm_X11_standingAfresh : Cond.initialized mX11_standingAfresh.1.cls ∈ ax_U ∧ Cond.code mX11_standingAfresh.1 mX11_standingAfresh.2.1 mX11_standingAfresh.2.2.1 mX11_standingAfresh.2.2.2 ∈ ax_U ∧ (mX11_standingAfresh.1.cls ≠ "java/lang/invoke/MethodHandle" ∧ mX11_standingAfresh.1.cls ≠ "java/lang/invoke/VarHandle" ∧ (parseMethodDescriptor mX11_standingAfresh.1.desc).map (fun d => d.parameters.length) = some 2) ∧ mX11_standingAfresh.2.2.1 ≤ 40 := ⟨ax_in 1 (by decide +kernel) rfl, ax_in 915 (by decide +kernel) rfl, ⟨by decide +kernel, by decide +kernel, by decide +kernel⟩, by decide⟩
theorem ci_X11_standingAfresh : Cond.instanceMethod mX11_standingAfresh.1 ∈ ax_U := ax_in 914 (by decide +kernel) rfl
theorem ce_X11_standingAfresh : Cond.selects mX11_standingAfresh.1.cls mX11_standingAfresh.1 mX11_standingAfresh.1 ∈ ax_U := ax_inp (n := 20) 42 (by decide +kernel) rfl
theorem cm_X11_lowest : Cond.initialized mX11_lowest.1.cls ∈ ax_U ∧ Cond.code mX11_lowest.1 mX11_lowest.2.1 mX11_lowest.2.2.1 mX11_lowest.2.2.2 ∈ ax_U ∧ (mX11_lowest.1.cls ≠ "java/lang/invoke/MethodHandle" ∧ mX11_lowest.1.cls ≠ "java/lang/invoke/VarHandle" ∧ (parseMethodDescriptor mX11_lowest.1.desc).map (fun d => d.parameters.length) = some 1) ∧ mX11_lowest.2.2.1 ≤ 40 := ⟨ax_in 1 (by decide +kernel) rfl, ax_in 923 (by decide +kernel) rfl, ⟨by decide +kernel, by decide +kernel, by decide +kernel⟩, by decide⟩
theorem ci_X11_lowest : Cond.instanceMethod mX11_lowest.1 ∈ ax_U := ax_in 922 (by decide +kernel) rfl
theorem ce_X11_lowest : Cond.selects mX11_lowest.1.cls mX11_lowest.1 mX11_lowest.1 ∈ ax_U := ax_inp (n := 20) 44 (by decide +kernel) rfl
theorem cm_X11_rings : Cond.initialized mX11_rings.1.cls ∈ ax_U ∧ Cond.code mX11_rings.1 mX11_rings.2.1 mX11_rings.2.2.1 mX11_rings.2.2.2 ∈ ax_U ∧ (mX11_rings.1.cls ≠ "java/lang/invoke/MethodHandle" ∧ mX11_rings.1.cls ≠ "java/lang/invoke/VarHandle" ∧ (parseMethodDescriptor mX11_rings.1.desc).map (fun d => d.parameters.length) = some 0) ∧ mX11_rings.2.2.1 ≤ 40 := ⟨ax_in 1 (by decide +kernel) rfl, ax_in 962 (by decide +kernel) rfl, ⟨by decide +kernel, by decide +kernel, by decide +kernel⟩, by decide⟩
theorem ci_X11_rings : Cond.instanceMethod mX11_rings.1 ∈ ax_U := ax_in 961 (by decide +kernel) rfl
theorem ce_X11_rings : Cond.selects mX11_rings.1.cls mX11_rings.1 mX11_rings.1 ∈ ax_U := ax_inp (n := 20) 47 (by decide +kernel) rfl
theorem cm_X11_bridges : Cond.initialized mX11_bridges.1.cls ∈ ax_U ∧ Cond.code mX11_bridges.1 mX11_bridges.2.1 mX11_bridges.2.2.1 mX11_bridges.2.2.2 ∈ ax_U ∧ (mX11_bridges.1.cls ≠ "java/lang/invoke/MethodHandle" ∧ mX11_bridges.1.cls ≠ "java/lang/invoke/VarHandle" ∧ (parseMethodDescriptor mX11_bridges.1.desc).map (fun d => d.parameters.length) = some 0) ∧ mX11_bridges.2.2.1 ≤ 40 := ⟨ax_in 1 (by decide +kernel) rfl, ax_in 966 (by decide +kernel) rfl, ⟨by decide +kernel, by decide +kernel, by decide +kernel⟩, by decide⟩
theorem ci_X11_bridges : Cond.instanceMethod mX11_bridges.1 ∈ ax_U := ax_in 965 (by decide +kernel) rfl
theorem ce_X11_bridges : Cond.selects mX11_bridges.1.cls mX11_bridges.1 mX11_bridges.1 ∈ ax_U := ax_inp (n := 20) 48 (by decide +kernel) rfl
theorem cm_X11_mostKept : Cond.initialized mX11_mostKept.1.cls ∈ ax_U ∧ Cond.code mX11_mostKept.1 mX11_mostKept.2.1 mX11_mostKept.2.2.1 mX11_mostKept.2.2.2 ∈ ax_U ∧ (mX11_mostKept.1.cls ≠ "java/lang/invoke/MethodHandle" ∧ mX11_mostKept.1.cls ≠ "java/lang/invoke/VarHandle" ∧ (parseMethodDescriptor mX11_mostKept.1.desc).map (fun d => d.parameters.length) = some 4) ∧ mX11_mostKept.2.2.1 ≤ 40 := ⟨ax_in 1 (by decide +kernel) rfl, ax_in 999 (by decide +kernel) rfl, ⟨by decide +kernel, by decide +kernel, by decide +kernel⟩, by decide⟩
theorem ci_X11_mostKept : Cond.instanceMethod mX11_mostKept.1 ∈ ax_U := ax_in 998 (by decide +kernel) rfl
theorem ce_X11_mostKept : Cond.selects mX11_mostKept.1.cls mX11_mostKept.1 mX11_mostKept.1 ∈ ax_U := ax_inp (n := 20) 51 (by decide +kernel) rfl
theorem cm_X11_gain : Cond.initialized mX11_gain.1.cls ∈ ax_U ∧ Cond.code mX11_gain.1 mX11_gain.2.1 mX11_gain.2.2.1 mX11_gain.2.2.2 ∈ ax_U ∧ (mX11_gain.1.cls ≠ "java/lang/invoke/MethodHandle" ∧ mX11_gain.1.cls ≠ "java/lang/invoke/VarHandle" ∧ (parseMethodDescriptor mX11_gain.1.desc).map (fun d => d.parameters.length) = some 4) ∧ mX11_gain.2.2.1 ≤ 40 := ⟨ax_in 1 (by decide +kernel) rfl, ax_in 995 (by decide +kernel) rfl, ⟨by decide +kernel, by decide +kernel, by decide +kernel⟩, by decide⟩
theorem ci_X11_gain : Cond.instanceMethod mX11_gain.1 ∈ ax_U := ax_in 994 (by decide +kernel) rfl
theorem ce_X11_gain : Cond.selects mX11_gain.1.cls mX11_gain.1 mX11_gain.1 ∈ ax_U := ax_inp (n := 20) 50 (by decide +kernel) rfl
theorem cm_X11_isRest : Cond.initialized mX11_isRest.1.cls ∈ ax_U ∧ Cond.code mX11_isRest.1 mX11_isRest.2.1 mX11_isRest.2.2.1 mX11_isRest.2.2.2 ∈ ax_U ∧ (mX11_isRest.1.cls ≠ "java/lang/invoke/MethodHandle" ∧ mX11_isRest.1.cls ≠ "java/lang/invoke/VarHandle" ∧ (parseMethodDescriptor mX11_isRest.1.desc).map (fun d => d.parameters.length) = some 5) ∧ mX11_isRest.2.2.1 ≤ 40 := ⟨ax_in 1 (by decide +kernel) rfl, ax_in 1008 (by decide +kernel) rfl, ⟨by decide +kernel, by decide +kernel, by decide +kernel⟩, by decide⟩
theorem ci_X11_isRest : Cond.instanceMethod mX11_isRest.1 ∈ ax_U := ax_in 1007 (by decide +kernel) rfl
theorem ce_X11_isRest : Cond.selects mX11_isRest.1.cls mX11_isRest.1 mX11_isRest.1 ∈ ax_U := ax_inp (n := 20) 52 (by decide +kernel) rfl
theorem cm_X11_wouldLeave : Cond.initialized mX11_wouldLeave.1.cls ∈ ax_U ∧ Cond.code mX11_wouldLeave.1 mX11_wouldLeave.2.1 mX11_wouldLeave.2.2.1 mX11_wouldLeave.2.2.2 ∈ ax_U ∧ (mX11_wouldLeave.1.cls ≠ "java/lang/invoke/MethodHandle" ∧ mX11_wouldLeave.1.cls ≠ "java/lang/invoke/VarHandle" ∧ (parseMethodDescriptor mX11_wouldLeave.1.desc).map (fun d => d.parameters.length) = some 3) ∧ mX11_wouldLeave.2.2.1 ≤ 40 := ⟨ax_in 1 (by decide +kernel) rfl, ax_in 1016 (by decide +kernel) rfl, ⟨by decide +kernel, by decide +kernel, by decide +kernel⟩, by decide⟩
theorem ci_X11_wouldLeave : Cond.instanceMethod mX11_wouldLeave.1 ∈ ax_U := ax_in 1015 (by decide +kernel) rfl
theorem ce_X11_wouldLeave : Cond.selects mX11_wouldLeave.1.cls mX11_wouldLeave.1 mX11_wouldLeave.1 ∈ ax_U := ax_inp (n := 20) 53 (by decide +kernel) rfl
theorem cm_X11_gatherFitting : Cond.initialized mX11_gatherFitting.1.cls ∈ ax_U ∧ Cond.code mX11_gatherFitting.1 mX11_gatherFitting.2.1 mX11_gatherFitting.2.2.1 mX11_gatherFitting.2.2.2 ∈ ax_U ∧ (mX11_gatherFitting.1.cls ≠ "java/lang/invoke/MethodHandle" ∧ mX11_gatherFitting.1.cls ≠ "java/lang/invoke/VarHandle" ∧ (parseMethodDescriptor mX11_gatherFitting.1.desc).map (fun d => d.parameters.length) = some 1) ∧ mX11_gatherFitting.2.2.1 ≤ 40 := ⟨ax_in 1 (by decide +kernel) rfl, ax_in 1032 (by decide +kernel) rfl, ⟨by decide +kernel, by decide +kernel, by decide +kernel⟩, by decide⟩
theorem ci_X11_gatherFitting : Cond.instanceMethod mX11_gatherFitting.1 ∈ ax_U := ax_in 1031 (by decide +kernel) rfl
theorem ce_X11_gatherFitting : Cond.selects mX11_gatherFitting.1.cls mX11_gatherFitting.1 mX11_gatherFitting.1 ∈ ax_U := ax_inp (n := 20) 54 (by decide +kernel) rfl
theorem cm_X11_allSo : Cond.initialized mX11_allSo.1.cls ∈ ax_U ∧ Cond.code mX11_allSo.1 mX11_allSo.2.1 mX11_allSo.2.2.1 mX11_allSo.2.2.2 ∈ ax_U ∧ (mX11_allSo.1.cls ≠ "java/lang/invoke/MethodHandle" ∧ mX11_allSo.1.cls ≠ "java/lang/invoke/VarHandle" ∧ (parseMethodDescriptor mX11_allSo.1.desc).map (fun d => d.parameters.length) = some 1) ∧ mX11_allSo.2.2.1 ≤ 40 := ⟨ax_in 1 (by decide +kernel) rfl, ax_in 1036 (by decide +kernel) rfl, ⟨by decide +kernel, by decide +kernel, by decide +kernel⟩, by decide⟩
theorem ci_X11_allSo : Cond.instanceMethod mX11_allSo.1 ∈ ax_U := ax_in 1035 (by decide +kernel) rfl
theorem ce_X11_allSo : Cond.selects mX11_allSo.1.cls mX11_allSo.1 mX11_allSo.1 ∈ ax_U := ax_inp (n := 20) 55 (by decide +kernel) rfl
theorem cm_X11_burningSets : Cond.initialized mX11_burningSets.1.cls ∈ ax_U ∧ Cond.code mX11_burningSets.1 mX11_burningSets.2.1 mX11_burningSets.2.2.1 mX11_burningSets.2.2.2 ∈ ax_U ∧ (mX11_burningSets.1.cls ≠ "java/lang/invoke/MethodHandle" ∧ mX11_burningSets.1.cls ≠ "java/lang/invoke/VarHandle" ∧ (parseMethodDescriptor mX11_burningSets.1.desc).map (fun d => d.parameters.length) = some 1) ∧ mX11_burningSets.2.2.1 ≤ 40 := ⟨ax_in 1 (by decide +kernel) rfl, ax_in 1048 (by decide +kernel) rfl, ⟨by decide +kernel, by decide +kernel, by decide +kernel⟩, by decide⟩
theorem ci_X11_burningSets : Cond.instanceMethod mX11_burningSets.1 ∈ ax_U := ax_in 1047 (by decide +kernel) rfl
theorem ce_X11_burningSets : Cond.selects mX11_burningSets.1.cls mX11_burningSets.1 mX11_burningSets.1 ∈ ax_U := ax_inp (n := 20) 56 (by decide +kernel) rfl
theorem cm_X11_burnParts : Cond.initialized mX11_burnParts.1.cls ∈ ax_U ∧ Cond.code mX11_burnParts.1 mX11_burnParts.2.1 mX11_burnParts.2.2.1 mX11_burnParts.2.2.2 ∈ ax_U ∧ (mX11_burnParts.1.cls ≠ "java/lang/invoke/MethodHandle" ∧ mX11_burnParts.1.cls ≠ "java/lang/invoke/VarHandle" ∧ (parseMethodDescriptor mX11_burnParts.1.desc).map (fun d => d.parameters.length) = some 2) ∧ mX11_burnParts.2.2.1 ≤ 40 := ⟨ax_in 1 (by decide +kernel) rfl, ax_in 1057 (by decide +kernel) rfl, ⟨by decide +kernel, by decide +kernel, by decide +kernel⟩, by decide⟩
theorem ci_X11_burnParts : Cond.instanceMethod mX11_burnParts.1 ∈ ax_U := ax_in 1056 (by decide +kernel) rfl
theorem ce_X11_burnParts : Cond.selects mX11_burnParts.1.cls mX11_burnParts.1 mX11_burnParts.1 ∈ ax_U := ax_inp (n := 20) 57 (by decide +kernel) rfl
theorem cm_X12_in : Cond.initialized mX12_in.1.cls ∈ ax_U ∧ Cond.code mX12_in.1 mX12_in.2.1 mX12_in.2.2.1 mX12_in.2.2.2 ∈ ax_U ∧ (mX12_in.1.cls ≠ "java/lang/invoke/MethodHandle" ∧ mX12_in.1.cls ≠ "java/lang/invoke/VarHandle" ∧ (parseMethodDescriptor mX12_in.1.desc).map (fun d => d.parameters.length) = some 3) ∧ mX12_in.2.2.1 ≤ 40 := ⟨ax_in 13 (by decide +kernel) rfl, ax_in 1381 (by decide +kernel) rfl, ⟨by decide +kernel, by decide +kernel, by decide +kernel⟩, by decide⟩
theorem cs_X12_in : Cond.static mX12_in.1 ∈ ax_U := ax_in 1380 (by decide +kernel) rfl
theorem cm_X12_has : Cond.initialized mX12_has.1.cls ∈ ax_U ∧ Cond.code mX12_has.1 mX12_has.2.1 mX12_has.2.2.1 mX12_has.2.2.2 ∈ ax_U ∧ (mX12_has.1.cls ≠ "java/lang/invoke/MethodHandle" ∧ mX12_has.1.cls ≠ "java/lang/invoke/VarHandle" ∧ (parseMethodDescriptor mX12_has.1.desc).map (fun d => d.parameters.length) = some 2) ∧ mX12_has.2.2.1 ≤ 40 := ⟨ax_in 13 (by decide +kernel) rfl, ax_in 1361 (by decide +kernel) rfl, ⟨by decide +kernel, by decide +kernel, by decide +kernel⟩, by decide⟩
theorem cs_X12_has : Cond.static mX12_has.1 ∈ ax_U := ax_in 1360 (by decide +kernel) rfl
theorem cm_X12_thrown : Cond.initialized mX12_thrown.1.cls ∈ ax_U ∧ Cond.code mX12_thrown.1 mX12_thrown.2.1 mX12_thrown.2.2.1 mX12_thrown.2.2.2 ∈ ax_U ∧ (mX12_thrown.1.cls ≠ "java/lang/invoke/MethodHandle" ∧ mX12_thrown.1.cls ≠ "java/lang/invoke/VarHandle" ∧ (parseMethodDescriptor mX12_thrown.1.desc).map (fun d => d.parameters.length) = some 0) ∧ mX12_thrown.2.2.1 ≤ 40 := ⟨ax_in 13 (by decide +kernel) rfl, ax_in 1321 (by decide +kernel) rfl, ⟨by decide +kernel, by decide +kernel, by decide +kernel⟩, by decide⟩
theorem ci_X12_thrown : Cond.instanceMethod mX12_thrown.1 ∈ ax_U := ax_in 1319 (by decide +kernel) rfl
theorem ce_X12_thrown : Cond.selects mX12_thrown.1.cls mX12_thrown.1 mX12_thrown.1 ∈ ax_U := ax_in 1320 (by decide +kernel) rfl
theorem cm_X12_byteOf : Cond.initialized mX12_byteOf.1.cls ∈ ax_U ∧ Cond.code mX12_byteOf.1 mX12_byteOf.2.1 mX12_byteOf.2.2.1 mX12_byteOf.2.2.2 ∈ ax_U ∧ (mX12_byteOf.1.cls ≠ "java/lang/invoke/MethodHandle" ∧ mX12_byteOf.1.cls ≠ "java/lang/invoke/VarHandle" ∧ (parseMethodDescriptor mX12_byteOf.1.desc).map (fun d => d.parameters.length) = some 6) ∧ mX12_byteOf.2.2.1 ≤ 40 := ⟨ax_in 13 (by decide +kernel) rfl, ax_in 1328 (by decide +kernel) rfl, ⟨by decide +kernel, by decide +kernel, by decide +kernel⟩, by decide⟩
theorem cs_X12_byteOf : Cond.static mX12_byteOf.1 ∈ ax_U := ax_in 1327 (by decide +kernel) rfl
theorem cm_X12_feed : Cond.initialized mX12_feed.1.cls ∈ ax_U ∧ Cond.code mX12_feed.1 mX12_feed.2.1 mX12_feed.2.2.1 mX12_feed.2.2.2 ∈ ax_U ∧ (mX12_feed.1.cls ≠ "java/lang/invoke/MethodHandle" ∧ mX12_feed.1.cls ≠ "java/lang/invoke/VarHandle" ∧ (parseMethodDescriptor mX12_feed.1.desc).map (fun d => d.parameters.length) = some 5) ∧ mX12_feed.2.2.1 ≤ 40 := ⟨ax_in 13 (by decide +kernel) rfl, ax_in 1325 (by decide +kernel) rfl, ⟨by decide +kernel, by decide +kernel, by decide +kernel⟩, by decide⟩
theorem ci_X12_feed : Cond.instanceMethod mX12_feed.1 ∈ ax_U := ax_in 1323 (by decide +kernel) rfl
theorem ce_X12_feed : Cond.selects mX12_feed.1.cls mX12_feed.1 mX12_feed.1 ∈ ax_U := ax_in 1324 (by decide +kernel) rfl
theorem cm_X12_end : Cond.initialized mX12_end.1.cls ∈ ax_U ∧ Cond.code mX12_end.1 mX12_end.2.1 mX12_end.2.2.1 mX12_end.2.2.2 ∈ ax_U ∧ (mX12_end.1.cls ≠ "java/lang/invoke/MethodHandle" ∧ mX12_end.1.cls ≠ "java/lang/invoke/VarHandle" ∧ (parseMethodDescriptor mX12_end.1.desc).map (fun d => d.parameters.length) = some 1) ∧ mX12_end.2.2.1 ≤ 40 := ⟨ax_in 13 (by decide +kernel) rfl, ax_in 1332 (by decide +kernel) rfl, ⟨by decide +kernel, by decide +kernel, by decide +kernel⟩, by decide⟩
theorem ci_X12_end : Cond.instanceMethod mX12_end.1 ∈ ax_U := ax_in 1330 (by decide +kernel) rfl
theorem ce_X12_end : Cond.selects mX12_end.1.cls mX12_end.1 mX12_end.1 ∈ ax_U := ax_in 1331 (by decide +kernel) rfl
theorem cm_X12_here : Cond.initialized mX12_here.1.cls ∈ ax_U ∧ Cond.code mX12_here.1 mX12_here.2.1 mX12_here.2.2.1 mX12_here.2.2.2 ∈ ax_U ∧ (mX12_here.1.cls ≠ "java/lang/invoke/MethodHandle" ∧ mX12_here.1.cls ≠ "java/lang/invoke/VarHandle" ∧ (parseMethodDescriptor mX12_here.1.desc).map (fun d => d.parameters.length) = some 0) ∧ mX12_here.2.2.1 ≤ 40 := ⟨ax_in 13 (by decide +kernel) rfl, ax_in 1351 (by decide +kernel) rfl, ⟨by decide +kernel, by decide +kernel, by decide +kernel⟩, by decide⟩
theorem ci_X12_here : Cond.instanceMethod mX12_here.1 ∈ ax_U := ax_in 1350 (by decide +kernel) rfl
theorem ce_X12_here : Cond.selects mX12_here.1.cls mX12_here.1 mX12_here.1 ∈ ax_U := ax_inp (n := 53) 61 (by decide +kernel) rfl
theorem cm_X12_look : Cond.initialized mX12_look.1.cls ∈ ax_U ∧ Cond.code mX12_look.1 mX12_look.2.1 mX12_look.2.2.1 mX12_look.2.2.2 ∈ ax_U ∧ (mX12_look.1.cls ≠ "java/lang/invoke/MethodHandle" ∧ mX12_look.1.cls ≠ "java/lang/invoke/VarHandle" ∧ (parseMethodDescriptor mX12_look.1.desc).map (fun d => d.parameters.length) = some 0) ∧ mX12_look.2.2.1 ≤ 40 := ⟨ax_in 13 (by decide +kernel) rfl, ax_in 1347 (by decide +kernel) rfl, ⟨by decide +kernel, by decide +kernel, by decide +kernel⟩, by decide⟩
theorem ci_X12_look : Cond.instanceMethod mX12_look.1 ∈ ax_U := ax_in 1346 (by decide +kernel) rfl
theorem ce_X12_look : Cond.selects mX12_look.1.cls mX12_look.1 mX12_look.1 ∈ ax_U := ax_inp (n := 53) 60 (by decide +kernel) rfl
theorem cm_X12_bad : Cond.initialized mX12_bad.1.cls ∈ ax_U ∧ Cond.code mX12_bad.1 mX12_bad.2.1 mX12_bad.2.2.1 mX12_bad.2.2.2 ∈ ax_U ∧ (mX12_bad.1.cls ≠ "java/lang/invoke/MethodHandle" ∧ mX12_bad.1.cls ≠ "java/lang/invoke/VarHandle" ∧ (parseMethodDescriptor mX12_bad.1.desc).map (fun d => d.parameters.length) = some 0) ∧ mX12_bad.2.2.1 ≤ 40 := ⟨ax_in 13 (by decide +kernel) rfl, ax_in 1378 (by decide +kernel) rfl, ⟨by decide +kernel, by decide +kernel, by decide +kernel⟩, by decide⟩
theorem ci_X12_bad : Cond.instanceMethod mX12_bad.1 ∈ ax_U := ax_in 1377 (by decide +kernel) rfl
theorem ce_X12_bad : Cond.selects mX12_bad.1.cls mX12_bad.1 mX12_bad.1 ∈ ax_U := ax_inp (n := 53) 64 (by decide +kernel) rfl
theorem cm_X12_isDigit : Cond.initialized mX12_isDigit.1.cls ∈ ax_U ∧ Cond.code mX12_isDigit.1 mX12_isDigit.2.1 mX12_isDigit.2.2.1 mX12_isDigit.2.2.2 ∈ ax_U ∧ (mX12_isDigit.1.cls ≠ "java/lang/invoke/MethodHandle" ∧ mX12_isDigit.1.cls ≠ "java/lang/invoke/VarHandle" ∧ (parseMethodDescriptor mX12_isDigit.1.desc).map (fun d => d.parameters.length) = some 1) ∧ mX12_isDigit.2.2.1 ≤ 40 := ⟨ax_in 13 (by decide +kernel) rfl, ax_in 1374 (by decide +kernel) rfl, ⟨by decide +kernel, by decide +kernel, by decide +kernel⟩, by decide⟩
theorem cs_X12_isDigit : Cond.static mX12_isDigit.1 ∈ ax_U := ax_in 1373 (by decide +kernel) rfl
theorem cm_X12_put : Cond.initialized mX12_put.1.cls ∈ ax_U ∧ Cond.code mX12_put.1 mX12_put.2.1 mX12_put.2.2.1 mX12_put.2.2.2 ∈ ax_U ∧ (mX12_put.1.cls ≠ "java/lang/invoke/MethodHandle" ∧ mX12_put.1.cls ≠ "java/lang/invoke/VarHandle" ∧ (parseMethodDescriptor mX12_put.1.desc).map (fun d => d.parameters.length) = some 2) ∧ mX12_put.2.2.1 ≤ 40 := ⟨ax_in 13 (by decide +kernel) rfl, ax_in 1415 (by decide +kernel) rfl, ⟨by decide +kernel, by decide +kernel, by decide +kernel⟩, by decide⟩
theorem ci_X12_put : Cond.instanceMethod mX12_put.1 ∈ ax_U := ax_in 1414 (by decide +kernel) rfl
theorem ce_X12_put : Cond.selects mX12_put.1.cls mX12_put.1 mX12_put.1 ∈ ax_U := ax_inp (n := 53) 72 (by decide +kernel) rfl
theorem cm_X12_letterOf : Cond.initialized mX12_letterOf.1.cls ∈ ax_U ∧ Cond.code mX12_letterOf.1 mX12_letterOf.2.1 mX12_letterOf.2.2.1 mX12_letterOf.2.2.2 ∈ ax_U ∧ (mX12_letterOf.1.cls ≠ "java/lang/invoke/MethodHandle" ∧ mX12_letterOf.1.cls ≠ "java/lang/invoke/VarHandle" ∧ (parseMethodDescriptor mX12_letterOf.1.desc).map (fun d => d.parameters.length) = some 1) ∧ mX12_letterOf.2.2.1 ≤ 40 := ⟨ax_in 13 (by decide +kernel) rfl, ax_in 1438 (by decide +kernel) rfl, ⟨by decide +kernel, by decide +kernel, by decide +kernel⟩, by decide⟩
theorem cs_X12_letterOf : Cond.static mX12_letterOf.1 ∈ ax_U := ax_in 1437 (by decide +kernel) rfl
theorem cm_X12_opens : Cond.initialized mX12_opens.1.cls ∈ ax_U ∧ Cond.code mX12_opens.1 mX12_opens.2.1 mX12_opens.2.2.1 mX12_opens.2.2.2 ∈ ax_U ∧ (mX12_opens.1.cls ≠ "java/lang/invoke/MethodHandle" ∧ mX12_opens.1.cls ≠ "java/lang/invoke/VarHandle" ∧ (parseMethodDescriptor mX12_opens.1.desc).map (fun d => d.parameters.length) = some 0) ∧ mX12_opens.2.2.1 ≤ 40 := ⟨ax_in 13 (by decide +kernel) rfl, ax_in 1411 (by decide +kernel) rfl, ⟨by decide +kernel, by decide +kernel, by decide +kernel⟩, by decide⟩
theorem ci_X12_opens : Cond.instanceMethod mX12_opens.1 ∈ ax_U := ax_in 1410 (by decide +kernel) rfl
theorem ce_X12_opens : Cond.selects mX12_opens.1.cls mX12_opens.1 mX12_opens.1 ∈ ax_U := ax_inp (n := 53) 71 (by decide +kernel) rfl
theorem cm_X12_closes : Cond.initialized mX12_closes.1.cls ∈ ax_U ∧ Cond.code mX12_closes.1 mX12_closes.2.1 mX12_closes.2.2.1 mX12_closes.2.2.2 ∈ ax_U ∧ (mX12_closes.1.cls ≠ "java/lang/invoke/MethodHandle" ∧ mX12_closes.1.cls ≠ "java/lang/invoke/VarHandle" ∧ (parseMethodDescriptor mX12_closes.1.desc).map (fun d => d.parameters.length) = some 1) ∧ mX12_closes.2.2.1 ≤ 40 := ⟨ax_in 13 (by decide +kernel) rfl, ax_in 1419 (by decide +kernel) rfl, ⟨by decide +kernel, by decide +kernel, by decide +kernel⟩, by decide⟩
theorem ci_X12_closes : Cond.instanceMethod mX12_closes.1 ∈ ax_U := ax_in 1418 (by decide +kernel) rfl
theorem ce_X12_closes : Cond.selects mX12_closes.1.cls mX12_closes.1 mX12_closes.1 ∈ ax_U := ax_inp (n := 53) 73 (by decide +kernel) rfl
theorem cm_X12_plainNumber : Cond.initialized mX12_plainNumber.1.cls ∈ ax_U ∧ Cond.code mX12_plainNumber.1 mX12_plainNumber.2.1 mX12_plainNumber.2.2.1 mX12_plainNumber.2.2.2 ∈ ax_U ∧ (mX12_plainNumber.1.cls ≠ "java/lang/invoke/MethodHandle" ∧ mX12_plainNumber.1.cls ≠ "java/lang/invoke/VarHandle" ∧ (parseMethodDescriptor mX12_plainNumber.1.desc).map (fun d => d.parameters.length) = some 0) ∧ mX12_plainNumber.2.2.1 ≤ 40 := ⟨ax_in 13 (by decide +kernel) rfl, ax_in 1435 (by decide +kernel) rfl, ⟨by decide +kernel, by decide +kernel, by decide +kernel⟩, by decide⟩
theorem ci_X12_plainNumber : Cond.instanceMethod mX12_plainNumber.1 ∈ ax_U := ax_in 1434 (by decide +kernel) rfl
theorem ce_X12_plainNumber : Cond.selects mX12_plainNumber.1.cls mX12_plainNumber.1 mX12_plainNumber.1 ∈ ax_U := ax_inp (n := 53) 77 (by decide +kernel) rfl
theorem cm_X12_atom : Cond.initialized mX12_atom.1.cls ∈ ax_U ∧ Cond.code mX12_atom.1 mX12_atom.2.1 mX12_atom.2.2.1 mX12_atom.2.2.2 ∈ ax_U ∧ (mX12_atom.1.cls ≠ "java/lang/invoke/MethodHandle" ∧ mX12_atom.1.cls ≠ "java/lang/invoke/VarHandle" ∧ (parseMethodDescriptor mX12_atom.1.desc).map (fun d => d.parameters.length) = some 0) ∧ mX12_atom.2.2.1 ≤ 40 := ⟨ax_in 13 (by decide +kernel) rfl, ax_in 1431 (by decide +kernel) rfl, ⟨by decide +kernel, by decide +kernel, by decide +kernel⟩, by decide⟩
theorem ci_X12_atom : Cond.instanceMethod mX12_atom.1 ∈ ax_U := ax_in 1430 (by decide +kernel) rfl
theorem ce_X12_atom : Cond.selects mX12_atom.1.cls mX12_atom.1 mX12_atom.1 ∈ ax_U := ax_inp (n := 53) 76 (by decide +kernel) rfl
theorem cm_X12_term : Cond.initialized mX12_term.1.cls ∈ ax_U ∧ Cond.code mX12_term.1 mX12_term.2.1 mX12_term.2.2.1 mX12_term.2.2.2 ∈ ax_U ∧ (mX12_term.1.cls ≠ "java/lang/invoke/MethodHandle" ∧ mX12_term.1.cls ≠ "java/lang/invoke/VarHandle" ∧ (parseMethodDescriptor mX12_term.1.desc).map (fun d => d.parameters.length) = some 0) ∧ mX12_term.2.2.1 ≤ 40 := ⟨ax_in 13 (by decide +kernel) rfl, ax_in 1427 (by decide +kernel) rfl, ⟨by decide +kernel, by decide +kernel, by decide +kernel⟩, by decide⟩
theorem ci_X12_term : Cond.instanceMethod mX12_term.1 ∈ ax_U := ax_in 1426 (by decide +kernel) rfl
theorem ce_X12_term : Cond.selects mX12_term.1.cls mX12_term.1 mX12_term.1 ∈ ax_U := ax_inp (n := 53) 75 (by decide +kernel) rfl
theorem cm_X12_sum : Cond.initialized mX12_sum.1.cls ∈ ax_U ∧ Cond.code mX12_sum.1 mX12_sum.2.1 mX12_sum.2.2.1 mX12_sum.2.2.2 ∈ ax_U ∧ (mX12_sum.1.cls ≠ "java/lang/invoke/MethodHandle" ∧ mX12_sum.1.cls ≠ "java/lang/invoke/VarHandle" ∧ (parseMethodDescriptor mX12_sum.1.desc).map (fun d => d.parameters.length) = some 0) ∧ mX12_sum.2.2.1 ≤ 40 := ⟨ax_in 13 (by decide +kernel) rfl, ax_in 1423 (by decide +kernel) rfl, ⟨by decide +kernel, by decide +kernel, by decide +kernel⟩, by decide⟩
theorem ci_X12_sum : Cond.instanceMethod mX12_sum.1 ∈ ax_U := ax_in 1422 (by decide +kernel) rfl
theorem ce_X12_sum : Cond.selects mX12_sum.1.cls mX12_sum.1 mX12_sum.1 ∈ ax_U := ax_inp (n := 53) 74 (by decide +kernel) rfl
theorem cm_X12_isSign : Cond.initialized mX12_isSign.1.cls ∈ ax_U ∧ Cond.code mX12_isSign.1 mX12_isSign.2.1 mX12_isSign.2.2.1 mX12_isSign.2.2.2 ∈ ax_U ∧ (mX12_isSign.1.cls ≠ "java/lang/invoke/MethodHandle" ∧ mX12_isSign.1.cls ≠ "java/lang/invoke/VarHandle" ∧ (parseMethodDescriptor mX12_isSign.1.desc).map (fun d => d.parameters.length) = some 1) ∧ mX12_isSign.2.2.1 ≤ 40 := ⟨ax_in 13 (by decide +kernel) rfl, ax_in 1445 (by decide +kernel) rfl, ⟨by decide +kernel, by decide +kernel, by decide +kernel⟩, by decide⟩
theorem cs_X12_isSign : Cond.static mX12_isSign.1 ∈ ax_U := ax_in 1444 (by decide +kernel) rfl
theorem cm_X12_compare : Cond.initialized mX12_compare.1.cls ∈ ax_U ∧ Cond.code mX12_compare.1 mX12_compare.2.1 mX12_compare.2.2.1 mX12_compare.2.2.2 ∈ ax_U ∧ (mX12_compare.1.cls ≠ "java/lang/invoke/MethodHandle" ∧ mX12_compare.1.cls ≠ "java/lang/invoke/VarHandle" ∧ (parseMethodDescriptor mX12_compare.1.desc).map (fun d => d.parameters.length) = some 0) ∧ mX12_compare.2.2.1 ≤ 40 := ⟨ax_in 13 (by decide +kernel) rfl, ax_in 1442 (by decide +kernel) rfl, ⟨by decide +kernel, by decide +kernel, by decide +kernel⟩, by decide⟩
theorem ci_X12_compare : Cond.instanceMethod mX12_compare.1 ∈ ax_U := ax_in 1441 (by decide +kernel) rfl
theorem ce_X12_compare : Cond.selects mX12_compare.1.cls mX12_compare.1 mX12_compare.1 ∈ ax_U := ax_inp (n := 53) 78 (by decide +kernel) rfl
theorem cm_X12_unit : Cond.initialized mX12_unit.1.cls ∈ ax_U ∧ Cond.code mX12_unit.1 mX12_unit.2.1 mX12_unit.2.2.1 mX12_unit.2.2.2 ∈ ax_U ∧ (mX12_unit.1.cls ≠ "java/lang/invoke/MethodHandle" ∧ mX12_unit.1.cls ≠ "java/lang/invoke/VarHandle" ∧ (parseMethodDescriptor mX12_unit.1.desc).map (fun d => d.parameters.length) = some 0) ∧ mX12_unit.2.2.1 ≤ 40 := ⟨ax_in 13 (by decide +kernel) rfl, ax_in 1407 (by decide +kernel) rfl, ⟨by decide +kernel, by decide +kernel, by decide +kernel⟩, by decide⟩
theorem ci_X12_unit : Cond.instanceMethod mX12_unit.1 ∈ ax_U := ax_in 1406 (by decide +kernel) rfl
theorem ce_X12_unit : Cond.selects mX12_unit.1.cls mX12_unit.1 mX12_unit.1 ∈ ax_U := ax_inp (n := 53) 70 (by decide +kernel) rfl
theorem cm_X12_goOnAnd : Cond.initialized mX12_goOnAnd.1.cls ∈ ax_U ∧ Cond.code mX12_goOnAnd.1 mX12_goOnAnd.2.1 mX12_goOnAnd.2.2.1 mX12_goOnAnd.2.2.2 ∈ ax_U ∧ (mX12_goOnAnd.1.cls ≠ "java/lang/invoke/MethodHandle" ∧ mX12_goOnAnd.1.cls ≠ "java/lang/invoke/VarHandle" ∧ (parseMethodDescriptor mX12_goOnAnd.1.desc).map (fun d => d.parameters.length) = some 0) ∧ mX12_goOnAnd.2.2.1 ≤ 40 := ⟨ax_in 13 (by decide +kernel) rfl, ax_in 1449 (by decide +kernel) rfl, ⟨by decide +kernel, by decide +kernel, by decide +kernel⟩, by decide⟩
theorem ci_X12_goOnAnd : Cond.instanceMethod mX12_goOnAnd.1 ∈ ax_U := ax_in 1448 (by decide +kernel) rfl
theorem ce_X12_goOnAnd : Cond.selects mX12_goOnAnd.1.cls mX12_goOnAnd.1 mX12_goOnAnd.1 ∈ ax_U := ax_inp (n := 53) 79 (by decide +kernel) rfl
theorem cm_X12_goOnOr : Cond.initialized mX12_goOnOr.1.cls ∈ ax_U ∧ Cond.code mX12_goOnOr.1 mX12_goOnOr.2.1 mX12_goOnOr.2.2.1 mX12_goOnOr.2.2.2 ∈ ax_U ∧ (mX12_goOnOr.1.cls ≠ "java/lang/invoke/MethodHandle" ∧ mX12_goOnOr.1.cls ≠ "java/lang/invoke/VarHandle" ∧ (parseMethodDescriptor mX12_goOnOr.1.desc).map (fun d => d.parameters.length) = some 0) ∧ mX12_goOnOr.2.2.1 ≤ 40 := ⟨ax_in 13 (by decide +kernel) rfl, ax_in 1453 (by decide +kernel) rfl, ⟨by decide +kernel, by decide +kernel, by decide +kernel⟩, by decide⟩
theorem ci_X12_goOnOr : Cond.instanceMethod mX12_goOnOr.1 ∈ ax_U := ax_in 1452 (by decide +kernel) rfl
theorem ce_X12_goOnOr : Cond.selects mX12_goOnOr.1.cls mX12_goOnOr.1 mX12_goOnOr.1 ∈ ax_U := ax_inp (n := 53) 80 (by decide +kernel) rfl
theorem cm_X12_condition : Cond.initialized mX12_condition.1.cls ∈ ax_U ∧ Cond.code mX12_condition.1 mX12_condition.2.1 mX12_condition.2.2.1 mX12_condition.2.2.2 ∈ ax_U ∧ (mX12_condition.1.cls ≠ "java/lang/invoke/MethodHandle" ∧ mX12_condition.1.cls ≠ "java/lang/invoke/VarHandle" ∧ (parseMethodDescriptor mX12_condition.1.desc).map (fun d => d.parameters.length) = some 0) ∧ mX12_condition.2.2.1 ≤ 40 := ⟨ax_in 13 (by decide +kernel) rfl, ax_in 1403 (by decide +kernel) rfl, ⟨by decide +kernel, by decide +kernel, by decide +kernel⟩, by decide⟩
theorem ci_X12_condition : Cond.instanceMethod mX12_condition.1 ∈ ax_U := ax_in 1402 (by decide +kernel) rfl
theorem ce_X12_condition : Cond.selects mX12_condition.1.cls mX12_condition.1 mX12_condition.1 ∈ ax_U := ax_inp (n := 53) 69 (by decide +kernel) rfl
theorem cm_X12_clause : Cond.initialized mX12_clause.1.cls ∈ ax_U ∧ Cond.code mX12_clause.1 mX12_clause.2.1 mX12_clause.2.2.1 mX12_clause.2.2.2 ∈ ax_U ∧ (mX12_clause.1.cls ≠ "java/lang/invoke/MethodHandle" ∧ mX12_clause.1.cls ≠ "java/lang/invoke/VarHandle" ∧ (parseMethodDescriptor mX12_clause.1.desc).map (fun d => d.parameters.length) = some 0) ∧ mX12_clause.2.2.1 ≤ 40 := ⟨ax_in 13 (by decide +kernel) rfl, ax_in 1399 (by decide +kernel) rfl, ⟨by decide +kernel, by decide +kernel, by decide +kernel⟩, by decide⟩
theorem ci_X12_clause : Cond.instanceMethod mX12_clause.1 ∈ ax_U := ax_in 1398 (by decide +kernel) rfl
theorem ce_X12_clause : Cond.selects mX12_clause.1.cls mX12_clause.1 mX12_clause.1 ∈ ax_U := ax_inp (n := 53) 68 (by decide +kernel) rfl
theorem cm_X12_open : Cond.initialized mX12_open.1.cls ∈ ax_U ∧ Cond.code mX12_open.1 mX12_open.2.1 mX12_open.2.2.1 mX12_open.2.2.2 ∈ ax_U ∧ (mX12_open.1.cls ≠ "java/lang/invoke/MethodHandle" ∧ mX12_open.1.cls ≠ "java/lang/invoke/VarHandle" ∧ (parseMethodDescriptor mX12_open.1.desc).map (fun d => d.parameters.length) = some 1) ∧ mX12_open.2.2.1 ≤ 40 := ⟨ax_in 13 (by decide +kernel) rfl, ax_in 1395 (by decide +kernel) rfl, ⟨by decide +kernel, by decide +kernel, by decide +kernel⟩, by decide⟩
theorem ci_X12_open : Cond.instanceMethod mX12_open.1 ∈ ax_U := ax_in 1394 (by decide +kernel) rfl
theorem ce_X12_open : Cond.selects mX12_open.1.cls mX12_open.1 mX12_open.1 ∈ ax_U := ax_inp (n := 53) 67 (by decide +kernel) rfl
theorem cm_X12_atEnd : Cond.initialized mX12_atEnd.1.cls ∈ ax_U ∧ Cond.code mX12_atEnd.1 mX12_atEnd.2.1 mX12_atEnd.2.2.1 mX12_atEnd.2.2.2 ∈ ax_U ∧ (mX12_atEnd.1.cls ≠ "java/lang/invoke/MethodHandle" ∧ mX12_atEnd.1.cls ≠ "java/lang/invoke/VarHandle" ∧ (parseMethodDescriptor mX12_atEnd.1.desc).map (fun d => d.parameters.length) = some 0) ∧ mX12_atEnd.2.2.1 ≤ 40 := ⟨ax_in 13 (by decide +kernel) rfl, ax_in 1457 (by decide +kernel) rfl, ⟨by decide +kernel, by decide +kernel, by decide +kernel⟩, by decide⟩
theorem ci_X12_atEnd : Cond.instanceMethod mX12_atEnd.1 ∈ ax_U := ax_in 1456 (by decide +kernel) rfl
theorem ce_X12_atEnd : Cond.selects mX12_atEnd.1.cls mX12_atEnd.1 mX12_atEnd.1 ∈ ax_U := ax_inp (n := 53) 81 (by decide +kernel) rfl
theorem cm_X12_readLaw : Cond.initialized mX12_readLaw.1.cls ∈ ax_U ∧ Cond.code mX12_readLaw.1 mX12_readLaw.2.1 mX12_readLaw.2.2.1 mX12_readLaw.2.2.2 ∈ ax_U ∧ (mX12_readLaw.1.cls ≠ "java/lang/invoke/MethodHandle" ∧ mX12_readLaw.1.cls ≠ "java/lang/invoke/VarHandle" ∧ (parseMethodDescriptor mX12_readLaw.1.desc).map (fun d => d.parameters.length) = some 1) ∧ mX12_readLaw.2.2.1 ≤ 40 := ⟨ax_in 13 (by decide +kernel) rfl, ax_in 1391 (by decide +kernel) rfl, ⟨by decide +kernel, by decide +kernel, by decide +kernel⟩, by decide⟩
theorem ci_X12_readLaw : Cond.instanceMethod mX12_readLaw.1 ∈ ax_U := ax_in 1390 (by decide +kernel) rfl
theorem ce_X12_readLaw : Cond.selects mX12_readLaw.1.cls mX12_readLaw.1 mX12_readLaw.1 ∈ ax_U := ax_inp (n := 53) 66 (by decide +kernel) rfl
theorem cm_X12_bounded : Cond.initialized mX12_bounded.1.cls ∈ ax_U ∧ Cond.code mX12_bounded.1 mX12_bounded.2.1 mX12_bounded.2.2.1 mX12_bounded.2.2.2 ∈ ax_U ∧ (mX12_bounded.1.cls ≠ "java/lang/invoke/MethodHandle" ∧ mX12_bounded.1.cls ≠ "java/lang/invoke/VarHandle" ∧ (parseMethodDescriptor mX12_bounded.1.desc).map (fun d => d.parameters.length) = some 1) ∧ mX12_bounded.2.2.1 ≤ 40 := ⟨ax_in 13 (by decide +kernel) rfl, ax_in 1562 (by decide +kernel) rfl, ⟨by decide +kernel, by decide +kernel, by decide +kernel⟩, by decide⟩
theorem cs_X12_bounded : Cond.static mX12_bounded.1 ∈ ax_U := ax_in 1561 (by decide +kernel) rfl
theorem cm_X12_worked : Cond.initialized mX12_worked.1.cls ∈ ax_U ∧ Cond.code mX12_worked.1 mX12_worked.2.1 mX12_worked.2.2.1 mX12_worked.2.2.2 ∈ ax_U ∧ (mX12_worked.1.cls ≠ "java/lang/invoke/MethodHandle" ∧ mX12_worked.1.cls ≠ "java/lang/invoke/VarHandle" ∧ (parseMethodDescriptor mX12_worked.1.desc).map (fun d => d.parameters.length) = some 3) ∧ mX12_worked.2.2.1 ≤ 40 := ⟨ax_in 13 (by decide +kernel) rfl, ax_in 1559 (by decide +kernel) rfl, ⟨by decide +kernel, by decide +kernel, by decide +kernel⟩, by decide⟩
theorem cs_X12_worked : Cond.static mX12_worked.1 ∈ ax_U := ax_in 1558 (by decide +kernel) rfl
theorem cm_X12_workOut : Cond.initialized mX12_workOut.1.cls ∈ ax_U ∧ Cond.code mX12_workOut.1 mX12_workOut.2.1 mX12_workOut.2.2.1 mX12_workOut.2.2.2 ∈ ax_U ∧ (mX12_workOut.1.cls ≠ "java/lang/invoke/MethodHandle" ∧ mX12_workOut.1.cls ≠ "java/lang/invoke/VarHandle" ∧ (parseMethodDescriptor mX12_workOut.1.desc).map (fun d => d.parameters.length) = some 3) ∧ mX12_workOut.2.2.1 ≤ 40 := ⟨ax_in 13 (by decide +kernel) rfl, ax_in 1556 (by decide +kernel) rfl, ⟨by decide +kernel, by decide +kernel, by decide +kernel⟩, by decide⟩
theorem ci_X12_workOut : Cond.instanceMethod mX12_workOut.1 ∈ ax_U := ax_in 1555 (by decide +kernel) rfl
theorem ce_X12_workOut : Cond.selects mX12_workOut.1.cls mX12_workOut.1 mX12_workOut.1 ∈ ax_U := ax_inp (n := 53) 100 (by decide +kernel) rfl
theorem cm_X12_worthOf : Cond.initialized mX12_worthOf.1.cls ∈ ax_U ∧ Cond.code mX12_worthOf.1 mX12_worthOf.2.1 mX12_worthOf.2.2.1 mX12_worthOf.2.2.2 ∈ ax_U ∧ (mX12_worthOf.1.cls ≠ "java/lang/invoke/MethodHandle" ∧ mX12_worthOf.1.cls ≠ "java/lang/invoke/VarHandle" ∧ (parseMethodDescriptor mX12_worthOf.1.desc).map (fun d => d.parameters.length) = some 1) ∧ mX12_worthOf.2.2.1 ≤ 40 := ⟨ax_in 13 (by decide +kernel) rfl, ax_in 1552 (by decide +kernel) rfl, ⟨by decide +kernel, by decide +kernel, by decide +kernel⟩, by decide⟩
theorem ci_X12_worthOf : Cond.instanceMethod mX12_worthOf.1 ∈ ax_U := ax_in 1551 (by decide +kernel) rfl
theorem ce_X12_worthOf : Cond.selects mX12_worthOf.1.cls mX12_worthOf.1 mX12_worthOf.1 ∈ ax_U := ax_inp (n := 53) 99 (by decide +kernel) rfl
theorem cm_X12_number : Cond.initialized mX12_number.1.cls ∈ ax_U ∧ Cond.code mX12_number.1 mX12_number.2.1 mX12_number.2.2.1 mX12_number.2.2.2 ∈ ax_U ∧ (mX12_number.1.cls ≠ "java/lang/invoke/MethodHandle" ∧ mX12_number.1.cls ≠ "java/lang/invoke/VarHandle" ∧ (parseMethodDescriptor mX12_number.1.desc).map (fun d => d.parameters.length) = some 2) ∧ mX12_number.2.2.1 ≤ 40 := ⟨ax_in 13 (by decide +kernel) rfl, ax_in 1371 (by decide +kernel) rfl, ⟨by decide +kernel, by decide +kernel, by decide +kernel⟩, by decide⟩
theorem ci_X12_number : Cond.instanceMethod mX12_number.1 ∈ ax_U := ax_in 1370 (by decide +kernel) rfl
theorem ce_X12_number : Cond.selects mX12_number.1.cls mX12_number.1 mX12_number.1 ∈ ax_U := ax_inp (n := 53) 63 (by decide +kernel) rfl
theorem cm_X12_itemOf : Cond.initialized mX12_itemOf.1.cls ∈ ax_U ∧ Cond.code mX12_itemOf.1 mX12_itemOf.2.1 mX12_itemOf.2.2.1 mX12_itemOf.2.2.2 ∈ ax_U ∧ (mX12_itemOf.1.cls ≠ "java/lang/invoke/MethodHandle" ∧ mX12_itemOf.1.cls ≠ "java/lang/invoke/VarHandle" ∧ (parseMethodDescriptor mX12_itemOf.1.desc).map (fun d => d.parameters.length) = some 2) ∧ mX12_itemOf.2.2.1 ≤ 40 := ⟨ax_in 13 (by decide +kernel) rfl, ax_in 1358 (by decide +kernel) rfl, ⟨by decide +kernel, by decide +kernel, by decide +kernel⟩, by decide⟩
theorem cs_X12_itemOf : Cond.static mX12_itemOf.1 ∈ ax_U := ax_in 1357 (by decide +kernel) rfl
theorem cm_X12_lowest : Cond.initialized mX12_lowest.1.cls ∈ ax_U ∧ Cond.code mX12_lowest.1 mX12_lowest.2.1 mX12_lowest.2.2.1 mX12_lowest.2.2.2 ∈ ax_U ∧ (mX12_lowest.1.cls ≠ "java/lang/invoke/MethodHandle" ∧ mX12_lowest.1.cls ≠ "java/lang/invoke/VarHandle" ∧ (parseMethodDescriptor mX12_lowest.1.desc).map (fun d => d.parameters.length) = some 2) ∧ mX12_lowest.2.2.1 ≤ 40 := ⟨ax_in 13 (by decide +kernel) rfl, ax_in 1364 (by decide +kernel) rfl, ⟨by decide +kernel, by decide +kernel, by decide +kernel⟩, by decide⟩
theorem cs_X12_lowest : Cond.static mX12_lowest.1 ∈ ax_U := ax_in 1363 (by decide +kernel) rfl
theorem cm_X12_highest : Cond.initialized mX12_highest.1.cls ∈ ax_U ∧ Cond.code mX12_highest.1 mX12_highest.2.1 mX12_highest.2.2.1 mX12_highest.2.2.2 ∈ ax_U ∧ (mX12_highest.1.cls ≠ "java/lang/invoke/MethodHandle" ∧ mX12_highest.1.cls ≠ "java/lang/invoke/VarHandle" ∧ (parseMethodDescriptor mX12_highest.1.desc).map (fun d => d.parameters.length) = some 2) ∧ mX12_highest.2.2.1 ≤ 40 := ⟨ax_in 13 (by decide +kernel) rfl, ax_in 1367 (by decide +kernel) rfl, ⟨by decide +kernel, by decide +kernel, by decide +kernel⟩, by decide⟩
theorem cs_X12_highest : Cond.static mX12_highest.1 ∈ ax_U := ax_in 1366 (by decide +kernel) rfl
theorem cm_X12_usual : Cond.initialized mX12_usual.1.cls ∈ ax_U ∧ Cond.code mX12_usual.1 mX12_usual.2.1 mX12_usual.2.2.1 mX12_usual.2.2.2 ∈ ax_U ∧ (mX12_usual.1.cls ≠ "java/lang/invoke/MethodHandle" ∧ mX12_usual.1.cls ≠ "java/lang/invoke/VarHandle" ∧ (parseMethodDescriptor mX12_usual.1.desc).map (fun d => d.parameters.length) = some 2) ∧ mX12_usual.2.2.1 ≤ 40 := ⟨ax_in 13 (by decide +kernel) rfl, ax_in 1343 (by decide +kernel) rfl, ⟨by decide +kernel, by decide +kernel, by decide +kernel⟩, by decide⟩
theorem cs_X12_usual : Cond.static mX12_usual.1 ∈ ax_U := ax_in 1342 (by decide +kernel) rfl
theorem cm_X12_items : Cond.initialized mX12_items.1.cls ∈ ax_U ∧ Cond.code mX12_items.1 mX12_items.2.1 mX12_items.2.2.1 mX12_items.2.2.2 ∈ ax_U ∧ (mX12_items.1.cls ≠ "java/lang/invoke/MethodHandle" ∧ mX12_items.1.cls ≠ "java/lang/invoke/VarHandle" ∧ (parseMethodDescriptor mX12_items.1.desc).map (fun d => d.parameters.length) = some 4) ∧ mX12_items.2.2.1 ≤ 40 := ⟨ax_in 13 (by decide +kernel) rfl, ax_in 1355 (by decide +kernel) rfl, ⟨by decide +kernel, by decide +kernel, by decide +kernel⟩, by decide⟩
theorem ci_X12_items : Cond.instanceMethod mX12_items.1 ∈ ax_U := ax_in 1354 (by decide +kernel) rfl
theorem ce_X12_items : Cond.selects mX12_items.1.cls mX12_items.1 mX12_items.1 ∈ ax_U := ax_inp (n := 53) 62 (by decide +kernel) rfl
theorem cm_X12_isWhole : Cond.initialized mX12_isWhole.1.cls ∈ ax_U ∧ Cond.code mX12_isWhole.1 mX12_isWhole.2.1 mX12_isWhole.2.2.1 mX12_isWhole.2.2.2 ∈ ax_U ∧ (mX12_isWhole.1.cls ≠ "java/lang/invoke/MethodHandle" ∧ mX12_isWhole.1.cls ≠ "java/lang/invoke/VarHandle" ∧ (parseMethodDescriptor mX12_isWhole.1.desc).map (fun d => d.parameters.length) = some 0) ∧ mX12_isWhole.2.2.1 ≤ 40 := ⟨ax_in 13 (by decide +kernel) rfl, ax_in 1385 (by decide +kernel) rfl, ⟨by decide +kernel, by decide +kernel, by decide +kernel⟩, by decide⟩
theorem ci_X12_isWhole : Cond.instanceMethod mX12_isWhole.1 ∈ ax_U := ax_in 1384 (by decide +kernel) rfl
theorem ce_X12_isWhole : Cond.selects mX12_isWhole.1.cls mX12_isWhole.1 mX12_isWhole.1 ∈ ax_U := ax_inp (n := 53) 65 (by decide +kernel) rfl
theorem cm_X12_readBelt : Cond.initialized mX12_readBelt.1.cls ∈ ax_U ∧ Cond.code mX12_readBelt.1 mX12_readBelt.2.1 mX12_readBelt.2.2.1 mX12_readBelt.2.2.2 ∈ ax_U ∧ (mX12_readBelt.1.cls ≠ "java/lang/invoke/MethodHandle" ∧ mX12_readBelt.1.cls ≠ "java/lang/invoke/VarHandle" ∧ (parseMethodDescriptor mX12_readBelt.1.desc).map (fun d => d.parameters.length) = some 0) ∧ mX12_readBelt.2.2.1 ≤ 40 := ⟨ax_in 13 (by decide +kernel) rfl, ax_in 1340 (by decide +kernel) rfl, ⟨by decide +kernel, by decide +kernel, by decide +kernel⟩, by decide⟩
theorem ci_X12_readBelt : Cond.instanceMethod mX12_readBelt.1 ∈ ax_U := ax_in 1339 (by decide +kernel) rfl
theorem ce_X12_readBelt : Cond.selects mX12_readBelt.1.cls mX12_readBelt.1 mX12_readBelt.1 ∈ ax_U := ax_inp (n := 53) 59 (by decide +kernel) rfl
theorem cm_X12_fault : Cond.initialized mX12_fault.1.cls ∈ ax_U ∧ Cond.code mX12_fault.1 mX12_fault.2.1 mX12_fault.2.2.1 mX12_fault.2.2.2 ∈ ax_U ∧ (mX12_fault.1.cls ≠ "java/lang/invoke/MethodHandle" ∧ mX12_fault.1.cls ≠ "java/lang/invoke/VarHandle" ∧ (parseMethodDescriptor mX12_fault.1.desc).map (fun d => d.parameters.length) = some 1) ∧ mX12_fault.2.2.1 ≤ 40 := ⟨ax_in 13 (by decide +kernel) rfl, ax_in 1336 (by decide +kernel) rfl, ⟨by decide +kernel, by decide +kernel, by decide +kernel⟩, by decide⟩
theorem ci_X12_fault : Cond.instanceMethod mX12_fault.1 ∈ ax_U := ax_in 1334 (by decide +kernel) rfl
theorem ce_X12_fault : Cond.selects mX12_fault.1.cls mX12_fault.1 mX12_fault.1 ∈ ax_U := ax_in 1335 (by decide +kernel) rfl
theorem cm_X12_takeBelt : Cond.initialized mX12_takeBelt.1.cls ∈ ax_U ∧ Cond.code mX12_takeBelt.1 mX12_takeBelt.2.1 mX12_takeBelt.2.2.1 mX12_takeBelt.2.2.2 ∈ ax_U ∧ (mX12_takeBelt.1.cls ≠ "java/lang/invoke/MethodHandle" ∧ mX12_takeBelt.1.cls ≠ "java/lang/invoke/VarHandle" ∧ (parseMethodDescriptor mX12_takeBelt.1.desc).map (fun d => d.parameters.length) = some 0) ∧ mX12_takeBelt.2.2.1 ≤ 40 := ⟨ax_in 13 (by decide +kernel) rfl, ax_in 1465 (by decide +kernel) rfl, ⟨by decide +kernel, by decide +kernel, by decide +kernel⟩, by decide⟩
theorem ci_X12_takeBelt : Cond.instanceMethod mX12_takeBelt.1 ∈ ax_U := ax_in 1464 (by decide +kernel) rfl
theorem ce_X12_takeBelt : Cond.selects mX12_takeBelt.1.cls mX12_takeBelt.1 mX12_takeBelt.1 ∈ ax_U := ax_inp (n := 53) 82 (by decide +kernel) rfl
theorem cm_X12_text : Cond.initialized mX12_text.1.cls ∈ ax_U ∧ Cond.code mX12_text.1 mX12_text.2.1 mX12_text.2.2.1 mX12_text.2.2.2 ∈ ax_U ∧ (mX12_text.1.cls ≠ "java/lang/invoke/MethodHandle" ∧ mX12_text.1.cls ≠ "java/lang/invoke/VarHandle" ∧ (parseMethodDescriptor mX12_text.1.desc).map (fun d => d.parameters.length) = some 1) ∧ mX12_text.2.2.1 ≤ 40 := ⟨ax_in 13 (by decide +kernel) rfl, ax_in 1461 (by decide +kernel) rfl, ⟨by decide +kernel, by decide +kernel, by decide +kernel⟩, by decide⟩
theorem ci_X12_text : Cond.instanceMethod mX12_text.1 ∈ ax_U := ax_in 1459 (by decide +kernel) rfl
theorem ce_X12_text : Cond.selects mX12_text.1.cls mX12_text.1 mX12_text.1 ∈ ax_U := ax_in 1460 (by decide +kernel) rfl
theorem cm_X12_of : Cond.initialized mX12_of.1.cls ∈ ax_U ∧ Cond.code mX12_of.1 mX12_of.2.1 mX12_of.2.2.1 mX12_of.2.2.2 ∈ ax_U ∧ (mX12_of.1.cls ≠ "java/lang/invoke/MethodHandle" ∧ mX12_of.1.cls ≠ "java/lang/invoke/VarHandle" ∧ (parseMethodDescriptor mX12_of.1.desc).map (fun d => d.parameters.length) = some 2) ∧ mX12_of.2.2.1 ≤ 40 := ⟨ax_in 13 (by decide +kernel) rfl, ax_in 1469 (by decide +kernel) rfl, ⟨by decide +kernel, by decide +kernel, by decide +kernel⟩, by decide⟩
theorem ci_X12_of : Cond.instanceMethod mX12_of.1 ∈ ax_U := ax_in 1468 (by decide +kernel) rfl
theorem ce_X12_of : Cond.selects mX12_of.1.cls mX12_of.1 mX12_of.1 ∈ ax_U := ax_inp (n := 53) 83 (by decide +kernel) rfl
theorem cm_X12_ofWire : Cond.initialized mX12_ofWire.1.cls ∈ ax_U ∧ Cond.code mX12_ofWire.1 mX12_ofWire.2.1 mX12_ofWire.2.2.1 mX12_ofWire.2.2.2 ∈ ax_U ∧ (mX12_ofWire.1.cls ≠ "java/lang/invoke/MethodHandle" ∧ mX12_ofWire.1.cls ≠ "java/lang/invoke/VarHandle" ∧ (parseMethodDescriptor mX12_ofWire.1.desc).map (fun d => d.parameters.length) = some 2) ∧ mX12_ofWire.2.2.1 ≤ 40 := ⟨ax_in 13 (by decide +kernel) rfl, ax_in 1497 (by decide +kernel) rfl, ⟨by decide +kernel, by decide +kernel, by decide +kernel⟩, by decide⟩
theorem ci_X12_ofWire : Cond.instanceMethod mX12_ofWire.1 ∈ ax_U := ax_in 1496 (by decide +kernel) rfl
theorem ce_X12_ofWire : Cond.selects mX12_ofWire.1.cls mX12_ofWire.1 mX12_ofWire.1 ∈ ax_U := ax_inp (n := 53) 89 (by decide +kernel) rfl
theorem cm_X12_putWire : Cond.initialized mX12_putWire.1.cls ∈ ax_U ∧ Cond.code mX12_putWire.1 mX12_putWire.2.1 mX12_putWire.2.2.1 mX12_putWire.2.2.2 ∈ ax_U ∧ (mX12_putWire.1.cls ≠ "java/lang/invoke/MethodHandle" ∧ mX12_putWire.1.cls ≠ "java/lang/invoke/VarHandle" ∧ (parseMethodDescriptor mX12_putWire.1.desc).map (fun d => d.parameters.length) = some 3) ∧ mX12_putWire.2.2.1 ≤ 40 := ⟨ax_in 13 (by decide +kernel) rfl, ax_in 1477 (by decide +kernel) rfl, ⟨by decide +kernel, by decide +kernel, by decide +kernel⟩, by decide⟩
theorem ci_X12_putWire : Cond.instanceMethod mX12_putWire.1 ∈ ax_U := ax_in 1476 (by decide +kernel) rfl
theorem ce_X12_putWire : Cond.selects mX12_putWire.1.cls mX12_putWire.1 mX12_putWire.1 ∈ ax_U := ax_inp (n := 53) 85 (by decide +kernel) rfl
theorem cm_X12_string : Cond.initialized mX12_string.1.cls ∈ ax_U ∧ Cond.code mX12_string.1 mX12_string.2.1 mX12_string.2.2.1 mX12_string.2.2.2 ∈ ax_U ∧ (mX12_string.1.cls ≠ "java/lang/invoke/MethodHandle" ∧ mX12_string.1.cls ≠ "java/lang/invoke/VarHandle" ∧ (parseMethodDescriptor mX12_string.1.desc).map (fun d => d.parameters.length) = some 3) ∧ mX12_string.2.2.1 ≤ 40 := ⟨ax_in 13 (by decide +kernel) rfl, ax_in 1473 (by decide +kernel) rfl, ⟨by decide +kernel, by decide +kernel, by decide +kernel⟩, by decide⟩
theorem ci_X12_string : Cond.instanceMethod mX12_string.1 ∈ ax_U := ax_in 1472 (by decide +kernel) rfl
theorem ce_X12_string : Cond.selects mX12_string.1.cls mX12_string.1 mX12_string.1 ∈ ax_U := ax_inp (n := 53) 84 (by decide +kernel) rfl
theorem cm_X12_isHouse : Cond.initialized mX12_isHouse.1.cls ∈ ax_U ∧ Cond.code mX12_isHouse.1 mX12_isHouse.2.1 mX12_isHouse.2.2.1 mX12_isHouse.2.2.2 ∈ ax_U ∧ (mX12_isHouse.1.cls ≠ "java/lang/invoke/MethodHandle" ∧ mX12_isHouse.1.cls ≠ "java/lang/invoke/VarHandle" ∧ (parseMethodDescriptor mX12_isHouse.1.desc).map (fun d => d.parameters.length) = some 1) ∧ mX12_isHouse.2.2.1 ≤ 40 := ⟨ax_in 13 (by decide +kernel) rfl, ax_in 1485 (by decide +kernel) rfl, ⟨by decide +kernel, by decide +kernel, by decide +kernel⟩, by decide⟩
theorem ci_X12_isHouse : Cond.instanceMethod mX12_isHouse.1 ∈ ax_U := ax_in 1484 (by decide +kernel) rfl
theorem ce_X12_isHouse : Cond.selects mX12_isHouse.1.cls mX12_isHouse.1 mX12_isHouse.1 ∈ ax_U := ax_inp (n := 53) 86 (by decide +kernel) rfl
theorem cm_X12_isWire : Cond.initialized mX12_isWire.1.cls ∈ ax_U ∧ Cond.code mX12_isWire.1 mX12_isWire.2.1 mX12_isWire.2.2.1 mX12_isWire.2.2.2 ∈ ax_U ∧ (mX12_isWire.1.cls ≠ "java/lang/invoke/MethodHandle" ∧ mX12_isWire.1.cls ≠ "java/lang/invoke/VarHandle" ∧ (parseMethodDescriptor mX12_isWire.1.desc).map (fun d => d.parameters.length) = some 1) ∧ mX12_isWire.2.2.1 ≤ 40 := ⟨ax_in 13 (by decide +kernel) rfl, ax_in 1509 (by decide +kernel) rfl, ⟨by decide +kernel, by decide +kernel, by decide +kernel⟩, by decide⟩
theorem ci_X12_isWire : Cond.instanceMethod mX12_isWire.1 ∈ ax_U := ax_in 1508 (by decide +kernel) rfl
theorem ce_X12_isWire : Cond.selects mX12_isWire.1.cls mX12_isWire.1 mX12_isWire.1 ∈ ax_U := ax_inp (n := 53) 91 (by decide +kernel) rfl
theorem cm_X12_isLive : Cond.initialized mX12_isLive.1.cls ∈ ax_U ∧ Cond.code mX12_isLive.1 mX12_isLive.2.1 mX12_isLive.2.2.1 mX12_isLive.2.2.2 ∈ ax_U ∧ (mX12_isLive.1.cls ≠ "java/lang/invoke/MethodHandle" ∧ mX12_isLive.1.cls ≠ "java/lang/invoke/VarHandle" ∧ (parseMethodDescriptor mX12_isLive.1.desc).map (fun d => d.parameters.length) = some 1) ∧ mX12_isLive.2.2.1 ≤ 40 := ⟨ax_in 13 (by decide +kernel) rfl, ax_in 1493 (by decide +kernel) rfl, ⟨by decide +kernel, by decide +kernel, by decide +kernel⟩, by decide⟩
theorem ci_X12_isLive : Cond.instanceMethod mX12_isLive.1 ∈ ax_U := ax_in 1492 (by decide +kernel) rfl
theorem ce_X12_isLive : Cond.selects mX12_isLive.1.cls mX12_isLive.1 mX12_isLive.1 ∈ ax_U := ax_inp (n := 53) 88 (by decide +kernel) rfl
theorem cm_X12_isAt : Cond.initialized mX12_isAt.1.cls ∈ ax_U ∧ Cond.code mX12_isAt.1 mX12_isAt.2.1 mX12_isAt.2.2.1 mX12_isAt.2.2.2 ∈ ax_U ∧ (mX12_isAt.1.cls ≠ "java/lang/invoke/MethodHandle" ∧ mX12_isAt.1.cls ≠ "java/lang/invoke/VarHandle" ∧ (parseMethodDescriptor mX12_isAt.1.desc).map (fun d => d.parameters.length) = some 2) ∧ mX12_isAt.2.2.1 ≤ 40 := ⟨ax_in 13 (by decide +kernel) rfl, ax_in 1501 (by decide +kernel) rfl, ⟨by decide +kernel, by decide +kernel, by decide +kernel⟩, by decide⟩
theorem ci_X12_isAt : Cond.instanceMethod mX12_isAt.1 ∈ ax_U := ax_in 1500 (by decide +kernel) rfl
theorem ce_X12_isAt : Cond.selects mX12_isAt.1.cls mX12_isAt.1 mX12_isAt.1 ∈ ax_U := ax_inp (n := 53) 90 (by decide +kernel) rfl
theorem cm_X12_farOf : Cond.initialized mX12_farOf.1.cls ∈ ax_U ∧ Cond.code mX12_farOf.1 mX12_farOf.2.1 mX12_farOf.2.2.1 mX12_farOf.2.2.2 ∈ ax_U ∧ (mX12_farOf.1.cls ≠ "java/lang/invoke/MethodHandle" ∧ mX12_farOf.1.cls ≠ "java/lang/invoke/VarHandle" ∧ (parseMethodDescriptor mX12_farOf.1.desc).map (fun d => d.parameters.length) = some 2) ∧ mX12_farOf.2.2.1 ≤ 40 := ⟨ax_in 13 (by decide +kernel) rfl, ax_in 1598 (by decide +kernel) rfl, ⟨by decide +kernel, by decide +kernel, by decide +kernel⟩, by decide⟩
theorem ci_X12_farOf : Cond.instanceMethod mX12_farOf.1 ∈ ax_U := ax_in 1597 (by decide +kernel) rfl
theorem ce_X12_farOf : Cond.selects mX12_farOf.1.cls mX12_farOf.1 mX12_farOf.1 ∈ ax_U := ax_inp (n := 53) 106 (by decide +kernel) rfl
theorem cm_X12_liveAt : Cond.initialized mX12_liveAt.1.cls ∈ ax_U ∧ Cond.code mX12_liveAt.1 mX12_liveAt.2.1 mX12_liveAt.2.2.1 mX12_liveAt.2.2.2 ∈ ax_U ∧ (mX12_liveAt.1.cls ≠ "java/lang/invoke/MethodHandle" ∧ mX12_liveAt.1.cls ≠ "java/lang/invoke/VarHandle" ∧ (parseMethodDescriptor mX12_liveAt.1.desc).map (fun d => d.parameters.length) = some 2) ∧ mX12_liveAt.2.2.1 ≤ 40 := ⟨ax_in 13 (by decide +kernel) rfl, ax_in 1489 (by decide +kernel) rfl, ⟨by decide +kernel, by decide +kernel, by decide +kernel⟩, by decide⟩
theorem ci_X12_liveAt : Cond.instanceMethod mX12_liveAt.1 ∈ ax_U := ax_in 1488 (by decide +kernel) rfl
theorem ce_X12_liveAt : Cond.selects mX12_liveAt.1.cls mX12_liveAt.1 mX12_liveAt.1 ∈ ax_U := ax_inp (n := 53) 87 (by decide +kernel) rfl
theorem cm_X12_allLive : Cond.initialized mX12_allLive.1.cls ∈ ax_U ∧ Cond.code mX12_allLive.1 mX12_allLive.2.1 mX12_allLive.2.2.1 mX12_allLive.2.2.2 ∈ ax_U ∧ (mX12_allLive.1.cls ≠ "java/lang/invoke/MethodHandle" ∧ mX12_allLive.1.cls ≠ "java/lang/invoke/VarHandle" ∧ (parseMethodDescriptor mX12_allLive.1.desc).map (fun d => d.parameters.length) = some 0) ∧ mX12_allLive.2.2.1 ≤ 40 := ⟨ax_in 13 (by decide +kernel) rfl, ax_in 1742 (by decide +kernel) rfl, ⟨by decide +kernel, by decide +kernel, by decide +kernel⟩, by decide⟩
theorem ci_X12_allLive : Cond.instanceMethod mX12_allLive.1 ∈ ax_U := ax_in 1741 (by decide +kernel) rfl
theorem ce_X12_allLive : Cond.selects mX12_allLive.1.cls mX12_allLive.1 mX12_allLive.1 ∈ ax_U := ax_inp (n := 53) 120 (by decide +kernel) rfl
theorem cm_X12_areTied : Cond.initialized mX12_areTied.1.cls ∈ ax_U ∧ Cond.code mX12_areTied.1 mX12_areTied.2.1 mX12_areTied.2.2.1 mX12_areTied.2.2.2 ∈ ax_U ∧ (mX12_areTied.1.cls ≠ "java/lang/invoke/MethodHandle" ∧ mX12_areTied.1.cls ≠ "java/lang/invoke/VarHandle" ∧ (parseMethodDescriptor mX12_areTied.1.desc).map (fun d => d.parameters.length) = some 2) ∧ mX12_areTied.2.2.1 ≤ 40 := ⟨ax_in 13 (by decide +kernel) rfl, ax_in 1586 (by decide +kernel) rfl, ⟨by decide +kernel, by decide +kernel, by decide +kernel⟩, by decide⟩
theorem ci_X12_areTied : Cond.instanceMethod mX12_areTied.1 ∈ ax_U := ax_in 1585 (by decide +kernel) rfl
theorem ce_X12_areTied : Cond.selects mX12_areTied.1.cls mX12_areTied.1 mX12_areTied.1 ∈ ax_U := ax_inp (n := 53) 103 (by decide +kernel) rfl
theorem cm_X12_areChapels : Cond.initialized mX12_areChapels.1.cls ∈ ax_U ∧ Cond.code mX12_areChapels.1 mX12_areChapels.2.1 mX12_areChapels.2.2.1 mX12_areChapels.2.2.2 ∈ ax_U ∧ (mX12_areChapels.1.cls ≠ "java/lang/invoke/MethodHandle" ∧ mX12_areChapels.1.cls ≠ "java/lang/invoke/VarHandle" ∧ (parseMethodDescriptor mX12_areChapels.1.desc).map (fun d => d.parameters.length) = some 2) ∧ mX12_areChapels.2.2.1 ≤ 40 := ⟨ax_in 13 (by decide +kernel) rfl, ax_in 1590 (by decide +kernel) rfl, ⟨by decide +kernel, by decide +kernel, by decide +kernel⟩, by decide⟩
theorem ci_X12_areChapels : Cond.instanceMethod mX12_areChapels.1 ∈ ax_U := ax_in 1589 (by decide +kernel) rfl
theorem ce_X12_areChapels : Cond.selects mX12_areChapels.1.cls mX12_areChapels.1 mX12_areChapels.1 ∈ ax_U := ax_inp (n := 53) 104 (by decide +kernel) rfl
theorem cm_X12_sendPart : Cond.initialized mX12_sendPart.1.cls ∈ ax_U ∧ Cond.code mX12_sendPart.1 mX12_sendPart.2.1 mX12_sendPart.2.2.1 mX12_sendPart.2.2.2 ∈ ax_U ∧ (mX12_sendPart.1.cls ≠ "java/lang/invoke/MethodHandle" ∧ mX12_sendPart.1.cls ≠ "java/lang/invoke/VarHandle" ∧ (parseMethodDescriptor mX12_sendPart.1.desc).map (fun d => d.parameters.length) = some 3) ∧ mX12_sendPart.2.2.1 ≤ 40 := ⟨ax_in 13 (by decide +kernel) rfl, ax_in 1544 (by decide +kernel) rfl, ⟨by decide +kernel, by decide +kernel, by decide +kernel⟩, by decide⟩
theorem ci_X12_sendPart : Cond.instanceMethod mX12_sendPart.1 ∈ ax_U := ax_in 1543 (by decide +kernel) rfl
theorem ce_X12_sendPart : Cond.selects mX12_sendPart.1.cls mX12_sendPart.1 mX12_sendPart.1 ∈ ax_U := ax_inp (n := 53) 97 (by decide +kernel) rfl
theorem cm_X12_keepsBy : Cond.initialized mX12_keepsBy.1.cls ∈ ax_U ∧ Cond.code mX12_keepsBy.1 mX12_keepsBy.2.1 mX12_keepsBy.2.2.1 mX12_keepsBy.2.2.2 ∈ ax_U ∧ (mX12_keepsBy.1.cls ≠ "java/lang/invoke/MethodHandle" ∧ mX12_keepsBy.1.cls ≠ "java/lang/invoke/VarHandle" ∧ (parseMethodDescriptor mX12_keepsBy.1.desc).map (fun d => d.parameters.length) = some 3) ∧ mX12_keepsBy.2.2.1 ≤ 40 := ⟨ax_in 13 (by decide +kernel) rfl, ax_in 1548 (by decide +kernel) rfl, ⟨by decide +kernel, by decide +kernel, by decide +kernel⟩, by decide⟩
theorem ci_X12_keepsBy : Cond.instanceMethod mX12_keepsBy.1 ∈ ax_U := ax_in 1547 (by decide +kernel) rfl
theorem ce_X12_keepsBy : Cond.selects mX12_keepsBy.1.cls mX12_keepsBy.1 mX12_keepsBy.1 ∈ ax_U := ax_inp (n := 53) 98 (by decide +kernel) rfl
theorem cm_X12_goOver : Cond.initialized mX12_goOver.1.cls ∈ ax_U ∧ Cond.code mX12_goOver.1 mX12_goOver.2.1 mX12_goOver.2.2.1 mX12_goOver.2.2.2 ∈ ax_U ∧ (mX12_goOver.1.cls ≠ "java/lang/invoke/MethodHandle" ∧ mX12_goOver.1.cls ≠ "java/lang/invoke/VarHandle" ∧ (parseMethodDescriptor mX12_goOver.1.desc).map (fun d => d.parameters.length) = some 3) ∧ mX12_goOver.2.2.1 ≤ 40 := ⟨ax_in 13 (by decide +kernel) rfl, ax_in 1574 (by decide +kernel) rfl, ⟨by decide +kernel, by decide +kernel, by decide +kernel⟩, by decide⟩
theorem ci_X12_goOver : Cond.instanceMethod mX12_goOver.1 ∈ ax_U := ax_in 1573 (by decide +kernel) rfl
theorem ce_X12_goOver : Cond.selects mX12_goOver.1.cls mX12_goOver.1 mX12_goOver.1 ∈ ax_U := ax_inp (n := 53) 101 (by decide +kernel) rfl
theorem cm_X12_layStroke : Cond.initialized mX12_layStroke.1.cls ∈ ax_U ∧ Cond.code mX12_layStroke.1 mX12_layStroke.2.1 mX12_layStroke.2.2.1 mX12_layStroke.2.2.2 ∈ ax_U ∧ (mX12_layStroke.1.cls ≠ "java/lang/invoke/MethodHandle" ∧ mX12_layStroke.1.cls ≠ "java/lang/invoke/VarHandle" ∧ (parseMethodDescriptor mX12_layStroke.1.desc).map (fun d => d.parameters.length) = some 2) ∧ mX12_layStroke.2.2.1 ≤ 40 := ⟨ax_in 13 (by decide +kernel) rfl, ax_in 1540 (by decide +kernel) rfl, ⟨by decide +kernel, by decide +kernel, by decide +kernel⟩, by decide⟩
theorem ci_X12_layStroke : Cond.instanceMethod mX12_layStroke.1 ∈ ax_U := ax_in 1539 (by decide +kernel) rfl
theorem ce_X12_layStroke : Cond.selects mX12_layStroke.1.cls mX12_layStroke.1 mX12_layStroke.1 ∈ ax_U := ax_inp (n := 53) 96 (by decide +kernel) rfl
theorem cm_X12_burningBy : Cond.initialized mX12_burningBy.1.cls ∈ ax_U ∧ Cond.code mX12_burningBy.1 mX12_burningBy.2.1 mX12_burningBy.2.2.1 mX12_burningBy.2.2.2 ∈ ax_U ∧ (mX12_burningBy.1.cls ≠ "java/lang/invoke/MethodHandle" ∧ mX12_burningBy.1.cls ≠ "java/lang/invoke/VarHandle" ∧ (parseMethodDescriptor mX12_burningBy.1.desc).map (fun d => d.parameters.length) = some 2) ∧ mX12_burningBy.2.2.1 ≤ 40 := ⟨ax_in 13 (by decide +kernel) rfl, ax_in 1536 (by decide +kernel) rfl, ⟨by decide +kernel, by decide +kernel, by decide +kernel⟩, by decide⟩
theorem ci_X12_burningBy : Cond.instanceMethod mX12_burningBy.1 ∈ ax_U := ax_in 1535 (by decide +kernel) rfl
theorem ce_X12_burningBy : Cond.selects mX12_burningBy.1.cls mX12_burningBy.1 mX12_burningBy.1 ∈ ax_U := ax_inp (n := 53) 95 (by decide +kernel) rfl
theorem cm_X12_keepsOf : Cond.initialized mX12_keepsOf.1.cls ∈ ax_U ∧ Cond.code mX12_keepsOf.1 mX12_keepsOf.2.1 mX12_keepsOf.2.2.1 mX12_keepsOf.2.2.2 ∈ ax_U ∧ (mX12_keepsOf.1.cls ≠ "java/lang/invoke/MethodHandle" ∧ mX12_keepsOf.1.cls ≠ "java/lang/invoke/VarHandle" ∧ (parseMethodDescriptor mX12_keepsOf.1.desc).map (fun d => d.parameters.length) = some 3) ∧ mX12_keepsOf.2.2.1 ≤ 40 := ⟨ax_in 13 (by decide +kernel) rfl, ax_in 1665 (by decide +kernel) rfl, ⟨by decide +kernel, by decide +kernel, by decide +kernel⟩, by decide⟩
theorem ci_X12_keepsOf : Cond.instanceMethod mX12_keepsOf.1 ∈ ax_U := ax_in 1664 (by decide +kernel) rfl
theorem ce_X12_keepsOf : Cond.selects mX12_keepsOf.1.cls mX12_keepsOf.1 mX12_keepsOf.1 ∈ ax_U := ax_inp (n := 53) 112 (by decide +kernel) rfl
theorem cm_X12_isForce : Cond.initialized mX12_isForce.1.cls ∈ ax_U ∧ Cond.code mX12_isForce.1 mX12_isForce.2.1 mX12_isForce.2.2.1 mX12_isForce.2.2.2 ∈ ax_U ∧ (mX12_isForce.1.cls ≠ "java/lang/invoke/MethodHandle" ∧ mX12_isForce.1.cls ≠ "java/lang/invoke/VarHandle" ∧ (parseMethodDescriptor mX12_isForce.1.desc).map (fun d => d.parameters.length) = some 1) ∧ mX12_isForce.2.2.1 ≤ 40 := ⟨ax_in 13 (by decide +kernel) rfl, ax_in 1520 (by decide +kernel) rfl, ⟨by decide +kernel, by decide +kernel, by decide +kernel⟩, by decide⟩
theorem cs_X12_isForce : Cond.static mX12_isForce.1 ∈ ax_U := ax_in 1519 (by decide +kernel) rfl
theorem cm_X12_house : Cond.initialized mX12_house.1.cls ∈ ax_U ∧ Cond.code mX12_house.1 mX12_house.2.1 mX12_house.2.2.1 mX12_house.2.2.2 ∈ ax_U ∧ (mX12_house.1.cls ≠ "java/lang/invoke/MethodHandle" ∧ mX12_house.1.cls ≠ "java/lang/invoke/VarHandle" ∧ (parseMethodDescriptor mX12_house.1.desc).map (fun d => d.parameters.length) = some 2) ∧ mX12_house.2.2.1 ≤ 40 := ⟨ax_in 13 (by decide +kernel) rfl, ax_in 1481 (by decide +kernel) rfl, ⟨by decide +kernel, by decide +kernel, by decide +kernel⟩, by decide⟩
theorem ci_X12_house : Cond.instanceMethod mX12_house.1 ∈ ax_U := ax_in 1479 (by decide +kernel) rfl
theorem ce_X12_house : Cond.selects mX12_house.1.cls mX12_house.1 mX12_house.1 ∈ ax_U := ax_in 1480 (by decide +kernel) rfl
theorem cm_X12_wire : Cond.initialized mX12_wire.1.cls ∈ ax_U ∧ Cond.code mX12_wire.1 mX12_wire.2.1 mX12_wire.2.2.1 mX12_wire.2.2.2 ∈ ax_U ∧ (mX12_wire.1.cls ≠ "java/lang/invoke/MethodHandle" ∧ mX12_wire.1.cls ≠ "java/lang/invoke/VarHandle" ∧ (parseMethodDescriptor mX12_wire.1.desc).map (fun d => d.parameters.length) = some 2) ∧ mX12_wire.2.2.1 ≤ 40 := ⟨ax_in 13 (by decide +kernel) rfl, ax_in 1505 (by decide +kernel) rfl, ⟨by decide +kernel, by decide +kernel, by decide +kernel⟩, by decide⟩
theorem ci_X12_wire : Cond.instanceMethod mX12_wire.1 ∈ ax_U := ax_in 1503 (by decide +kernel) rfl
theorem ce_X12_wire : Cond.selects mX12_wire.1.cls mX12_wire.1 mX12_wire.1 ∈ ax_U := ax_in 1504 (by decide +kernel) rfl
theorem cm_X12_law : Cond.initialized mX12_law.1.cls ∈ ax_U ∧ Cond.code mX12_law.1 mX12_law.2.1 mX12_law.2.2.1 mX12_law.2.2.2 ∈ ax_U ∧ (mX12_law.1.cls ≠ "java/lang/invoke/MethodHandle" ∧ mX12_law.1.cls ≠ "java/lang/invoke/VarHandle" ∧ (parseMethodDescriptor mX12_law.1.desc).map (fun d => d.parameters.length) = some 1) ∧ mX12_law.2.2.1 ≤ 40 := ⟨ax_in 13 (by decide +kernel) rfl, ax_in 1513 (by decide +kernel) rfl, ⟨by decide +kernel, by decide +kernel, by decide +kernel⟩, by decide⟩
theorem ci_X12_law : Cond.instanceMethod mX12_law.1 ∈ ax_U := ax_in 1511 (by decide +kernel) rfl
theorem ce_X12_law : Cond.selects mX12_law.1.cls mX12_law.1 mX12_law.1 ∈ ax_U := ax_in 1512 (by decide +kernel) rfl
theorem cm_X12_keep : Cond.initialized mX12_keep.1.cls ∈ ax_U ∧ Cond.code mX12_keep.1 mX12_keep.2.1 mX12_keep.2.2.1 mX12_keep.2.2.2 ∈ ax_U ∧ (mX12_keep.1.cls ≠ "java/lang/invoke/MethodHandle" ∧ mX12_keep.1.cls ≠ "java/lang/invoke/VarHandle" ∧ (parseMethodDescriptor mX12_keep.1.desc).map (fun d => d.parameters.length) = some 0) ∧ mX12_keep.2.2.1 ≤ 40 := ⟨ax_in 13 (by decide +kernel) rfl, ax_in 1528 (by decide +kernel) rfl, ⟨by decide +kernel, by decide +kernel, by decide +kernel⟩, by decide⟩
theorem ci_X12_keep : Cond.instanceMethod mX12_keep.1 ∈ ax_U := ax_in 1527 (by decide +kernel) rfl
theorem ce_X12_keep : Cond.selects mX12_keep.1.cls mX12_keep.1 mX12_keep.1 ∈ ax_U := ax_inp (n := 53) 93 (by decide +kernel) rfl
theorem cm_X12_isRefused : Cond.initialized mX12_isRefused.1.cls ∈ ax_U ∧ Cond.code mX12_isRefused.1 mX12_isRefused.2.1 mX12_isRefused.2.2.1 mX12_isRefused.2.2.2 ∈ ax_U ∧ (mX12_isRefused.1.cls ≠ "java/lang/invoke/MethodHandle" ∧ mX12_isRefused.1.cls ≠ "java/lang/invoke/VarHandle" ∧ (parseMethodDescriptor mX12_isRefused.1.desc).map (fun d => d.parameters.length) = some 1) ∧ mX12_isRefused.2.2.1 ≤ 40 := ⟨ax_in 13 (by decide +kernel) rfl, ax_in 1524 (by decide +kernel) rfl, ⟨by decide +kernel, by decide +kernel, by decide +kernel⟩, by decide⟩
theorem ci_X12_isRefused : Cond.instanceMethod mX12_isRefused.1 ∈ ax_U := ax_in 1523 (by decide +kernel) rfl
theorem ce_X12_isRefused : Cond.selects mX12_isRefused.1.cls mX12_isRefused.1 mX12_isRefused.1 ∈ ax_U := ax_inp (n := 53) 92 (by decide +kernel) rfl
theorem cm_X12_strikeNow : Cond.initialized mX12_strikeNow.1.cls ∈ ax_U ∧ Cond.code mX12_strikeNow.1 mX12_strikeNow.2.1 mX12_strikeNow.2.2.1 mX12_strikeNow.2.2.2 ∈ ax_U ∧ (mX12_strikeNow.1.cls ≠ "java/lang/invoke/MethodHandle" ∧ mX12_strikeNow.1.cls ≠ "java/lang/invoke/VarHandle" ∧ (parseMethodDescriptor mX12_strikeNow.1.desc).map (fun d => d.parameters.length) = some 2) ∧ mX12_strikeNow.2.2.1 ≤ 40 := ⟨ax_in 13 (by decide +kernel) rfl, ax_in 1532 (by decide +kernel) rfl, ⟨by decide +kernel, by decide +kernel, by decide +kernel⟩, by decide⟩
theorem ci_X12_strikeNow : Cond.instanceMethod mX12_strikeNow.1 ∈ ax_U := ax_in 1531 (by decide +kernel) rfl
theorem ce_X12_strikeNow : Cond.selects mX12_strikeNow.1.cls mX12_strikeNow.1 mX12_strikeNow.1 ∈ ax_U := ax_inp (n := 53) 94 (by decide +kernel) rfl
theorem cm_X12_strike : Cond.initialized mX12_strike.1.cls ∈ ax_U ∧ Cond.code mX12_strike.1 mX12_strike.2.1 mX12_strike.2.2.1 mX12_strike.2.2.2 ∈ ax_U ∧ (mX12_strike.1.cls ≠ "java/lang/invoke/MethodHandle" ∧ mX12_strike.1.cls ≠ "java/lang/invoke/VarHandle" ∧ (parseMethodDescriptor mX12_strike.1.desc).map (fun d => d.parameters.length) = some 2) ∧ mX12_strike.2.2.1 ≤ 40 := ⟨ax_in 13 (by decide +kernel) rfl, ax_in 1517 (by decide +kernel) rfl, ⟨by decide +kernel, by decide +kernel, by decide +kernel⟩, by decide⟩
theorem ci_X12_strike : Cond.instanceMethod mX12_strike.1 ∈ ax_U := ax_in 1515 (by decide +kernel) rfl
theorem ce_X12_strike : Cond.selects mX12_strike.1.cls mX12_strike.1 mX12_strike.1 ∈ ax_U := ax_in 1516 (by decide +kernel) rfl
theorem cm_X12_priceOf : Cond.initialized mX12_priceOf.1.cls ∈ ax_U ∧ Cond.code mX12_priceOf.1 mX12_priceOf.2.1 mX12_priceOf.2.2.1 mX12_priceOf.2.2.2 ∈ ax_U ∧ (mX12_priceOf.1.cls ≠ "java/lang/invoke/MethodHandle" ∧ mX12_priceOf.1.cls ≠ "java/lang/invoke/VarHandle" ∧ (parseMethodDescriptor mX12_priceOf.1.desc).map (fun d => d.parameters.length) = some 2) ∧ mX12_priceOf.2.2.1 ≤ 40 := ⟨ax_in 13 (by decide +kernel) rfl, ax_in 1594 (by decide +kernel) rfl, ⟨by decide +kernel, by decide +kernel, by decide +kernel⟩, by decide⟩
theorem ci_X12_priceOf : Cond.instanceMethod mX12_priceOf.1 ∈ ax_U := ax_in 1593 (by decide +kernel) rfl
theorem ce_X12_priceOf : Cond.selects mX12_priceOf.1.cls mX12_priceOf.1 mX12_priceOf.1 ∈ ax_U := ax_inp (n := 53) 105 (by decide +kernel) rfl
theorem cm_X12_whyNot : Cond.initialized mX12_whyNot.1.cls ∈ ax_U ∧ Cond.code mX12_whyNot.1 mX12_whyNot.2.1 mX12_whyNot.2.2.1 mX12_whyNot.2.2.2 ∈ ax_U ∧ (mX12_whyNot.1.cls ≠ "java/lang/invoke/MethodHandle" ∧ mX12_whyNot.1.cls ≠ "java/lang/invoke/VarHandle" ∧ (parseMethodDescriptor mX12_whyNot.1.desc).map (fun d => d.parameters.length) = some 2) ∧ mX12_whyNot.2.2.1 ≤ 40 := ⟨ax_in 13 (by decide +kernel) rfl, ax_in 1582 (by decide +kernel) rfl, ⟨by decide +kernel, by decide +kernel, by decide +kernel⟩, by decide⟩
theorem ci_X12_whyNot : Cond.instanceMethod mX12_whyNot.1 ∈ ax_U := ax_in 1581 (by decide +kernel) rfl
theorem ce_X12_whyNot : Cond.selects mX12_whyNot.1.cls mX12_whyNot.1 mX12_whyNot.1 ∈ ax_U := ax_inp (n := 53) 102 (by decide +kernel) rfl
theorem cm_X12_lay : Cond.initialized mX12_lay.1.cls ∈ ax_U ∧ Cond.code mX12_lay.1 mX12_lay.2.1 mX12_lay.2.2.1 mX12_lay.2.2.2 ∈ ax_U ∧ (mX12_lay.1.cls ≠ "java/lang/invoke/MethodHandle" ∧ mX12_lay.1.cls ≠ "java/lang/invoke/VarHandle" ∧ (parseMethodDescriptor mX12_lay.1.desc).map (fun d => d.parameters.length) = some 2) ∧ mX12_lay.2.2.1 ≤ 40 := ⟨ax_in 13 (by decide +kernel) rfl, ax_in 1578 (by decide +kernel) rfl, ⟨by decide +kernel, by decide +kernel, by decide +kernel⟩, by decide⟩
theorem ci_X12_lay : Cond.instanceMethod mX12_lay.1 ∈ ax_U := ax_in 1576 (by decide +kernel) rfl
theorem ce_X12_lay : Cond.selects mX12_lay.1.cls mX12_lay.1 mX12_lay.1 ∈ ax_U := ax_in 1577 (by decide +kernel) rfl
theorem cm_X12_cut : Cond.initialized mX12_cut.1.cls ∈ ax_U ∧ Cond.code mX12_cut.1 mX12_cut.2.1 mX12_cut.2.2.1 mX12_cut.2.2.2 ∈ ax_U ∧ (mX12_cut.1.cls ≠ "java/lang/invoke/MethodHandle" ∧ mX12_cut.1.cls ≠ "java/lang/invoke/VarHandle" ∧ (parseMethodDescriptor mX12_cut.1.desc).map (fun d => d.parameters.length) = some 1) ∧ mX12_cut.2.2.1 ≤ 40 := ⟨ax_in 13 (by decide +kernel) rfl, ax_in 1603 (by decide +kernel) rfl, ⟨by decide +kernel, by decide +kernel, by decide +kernel⟩, by decide⟩
theorem ci_X12_cut : Cond.instanceMethod mX12_cut.1 ∈ ax_U := ax_in 1601 (by decide +kernel) rfl
theorem ce_X12_cut : Cond.selects mX12_cut.1.cls mX12_cut.1 mX12_cut.1 ∈ ax_U := ax_in 1602 (by decide +kernel) rfl
theorem cm_X12_scrape : Cond.initialized mX12_scrape.1.cls ∈ ax_U ∧ Cond.code mX12_scrape.1 mX12_scrape.2.1 mX12_scrape.2.2.1 mX12_scrape.2.2.2 ∈ ax_U ∧ (mX12_scrape.1.cls ≠ "java/lang/invoke/MethodHandle" ∧ mX12_scrape.1.cls ≠ "java/lang/invoke/VarHandle" ∧ (parseMethodDescriptor mX12_scrape.1.desc).map (fun d => d.parameters.length) = some 1) ∧ mX12_scrape.2.2.1 ≤ 40 := ⟨ax_in 13 (by decide +kernel) rfl, ax_in 1607 (by decide +kernel) rfl, ⟨by decide +kernel, by decide +kernel, by decide +kernel⟩, by decide⟩
theorem ci_X12_scrape : Cond.instanceMethod mX12_scrape.1 ∈ ax_U := ax_in 1605 (by decide +kernel) rfl
theorem ce_X12_scrape : Cond.selects mX12_scrape.1.cls mX12_scrape.1 mX12_scrape.1 ∈ ax_U := ax_in 1606 (by decide +kernel) rfl
theorem cm_X12_ground : Cond.initialized mX12_ground.1.cls ∈ ax_U ∧ Cond.code mX12_ground.1 mX12_ground.2.1 mX12_ground.2.2.1 mX12_ground.2.2.2 ∈ ax_U ∧ (mX12_ground.1.cls ≠ "java/lang/invoke/MethodHandle" ∧ mX12_ground.1.cls ≠ "java/lang/invoke/VarHandle" ∧ (parseMethodDescriptor mX12_ground.1.desc).map (fun d => d.parameters.length) = some 1) ∧ mX12_ground.2.2.1 ≤ 40 := ⟨ax_in 13 (by decide +kernel) rfl, ax_in 1611 (by decide +kernel) rfl, ⟨by decide +kernel, by decide +kernel, by decide +kernel⟩, by decide⟩
theorem ci_X12_ground : Cond.instanceMethod mX12_ground.1 ∈ ax_U := ax_in 1609 (by decide +kernel) rfl
theorem ce_X12_ground : Cond.selects mX12_ground.1.cls mX12_ground.1 mX12_ground.1 ∈ ax_U := ax_in 1610 (by decide +kernel) rfl
theorem cm_X12_passSummer : Cond.initialized mX12_passSummer.1.cls ∈ ax_U ∧ Cond.code mX12_passSummer.1 mX12_passSummer.2.1 mX12_passSummer.2.2.1 mX12_passSummer.2.2.2 ∈ ax_U ∧ (mX12_passSummer.1.cls ≠ "java/lang/invoke/MethodHandle" ∧ mX12_passSummer.1.cls ≠ "java/lang/invoke/VarHandle" ∧ (parseMethodDescriptor mX12_passSummer.1.desc).map (fun d => d.parameters.length) = some 0) ∧ mX12_passSummer.2.2.1 ≤ 40 := ⟨ax_in 13 (by decide +kernel) rfl, ax_in 1623 (by decide +kernel) rfl, ⟨by decide +kernel, by decide +kernel, by decide +kernel⟩, by decide⟩
theorem ci_X12_passSummer : Cond.instanceMethod mX12_passSummer.1 ∈ ax_U := ax_in 1622 (by decide +kernel) rfl
theorem ce_X12_passSummer : Cond.selects mX12_passSummer.1.cls mX12_passSummer.1 mX12_passSummer.1 ∈ ax_U := ax_inp (n := 53) 108 (by decide +kernel) rfl
theorem cm_X12_areSummers : Cond.initialized mX12_areSummers.1.cls ∈ ax_U ∧ Cond.code mX12_areSummers.1 mX12_areSummers.2.1 mX12_areSummers.2.2.1 mX12_areSummers.2.2.2 ∈ ax_U ∧ (mX12_areSummers.1.cls ≠ "java/lang/invoke/MethodHandle" ∧ mX12_areSummers.1.cls ≠ "java/lang/invoke/VarHandle" ∧ (parseMethodDescriptor mX12_areSummers.1.desc).map (fun d => d.parameters.length) = some 1) ∧ mX12_areSummers.2.2.1 ≤ 40 := ⟨ax_in 13 (by decide +kernel) rfl, ax_in 1619 (by decide +kernel) rfl, ⟨by decide +kernel, by decide +kernel, by decide +kernel⟩, by decide⟩
theorem ci_X12_areSummers : Cond.instanceMethod mX12_areSummers.1 ∈ ax_U := ax_in 1618 (by decide +kernel) rfl
theorem ce_X12_areSummers : Cond.selects mX12_areSummers.1.cls mX12_areSummers.1 mX12_areSummers.1 ∈ ax_U := ax_inp (n := 53) 107 (by decide +kernel) rfl
theorem cm_X12_summers : Cond.initialized mX12_summers.1.cls ∈ ax_U ∧ Cond.code mX12_summers.1 mX12_summers.2.1 mX12_summers.2.2.1 mX12_summers.2.2.2 ∈ ax_U ∧ (mX12_summers.1.cls ≠ "java/lang/invoke/MethodHandle" ∧ mX12_summers.1.cls ≠ "java/lang/invoke/VarHandle" ∧ (parseMethodDescriptor mX12_summers.1.desc).map (fun d => d.parameters.length) = some 1) ∧ mX12_summers.2.2.1 ≤ 40 := ⟨ax_in 13 (by decide +kernel) rfl, ax_in 1615 (by decide +kernel) rfl, ⟨by decide +kernel, by decide +kernel, by decide +kernel⟩, by decide⟩
theorem ci_X12_summers : Cond.instanceMethod mX12_summers.1 ∈ ax_U := ax_in 1613 (by decide +kernel) rfl
theorem ce_X12_summers : Cond.selects mX12_summers.1.cls mX12_summers.1 mX12_summers.1 ∈ ax_U := ax_in 1614 (by decide +kernel) rfl
theorem cm_X12_set : Cond.initialized mX12_set.1.cls ∈ ax_U ∧ Cond.code mX12_set.1 mX12_set.2.1 mX12_set.2.2.1 mX12_set.2.2.2 ∈ ax_U ∧ (mX12_set.1.cls ≠ "java/lang/invoke/MethodHandle" ∧ mX12_set.1.cls ≠ "java/lang/invoke/VarHandle" ∧ (parseMethodDescriptor mX12_set.1.desc).map (fun d => d.parameters.length) = some 2) ∧ mX12_set.2.2.1 ≤ 40 := ⟨ax_in 13 (by decide +kernel) rfl, ax_in 1627 (by decide +kernel) rfl, ⟨by decide +kernel, by decide +kernel, by decide +kernel⟩, by decide⟩
theorem ci_X12_set : Cond.instanceMethod mX12_set.1 ∈ ax_U := ax_in 1625 (by decide +kernel) rfl
theorem ce_X12_set : Cond.selects mX12_set.1.cls mX12_set.1 mX12_set.1 ∈ ax_U := ax_in 1626 (by decide +kernel) rfl
theorem cm_X12_draw : Cond.initialized mX12_draw.1.cls ∈ ax_U ∧ Cond.code mX12_draw.1 mX12_draw.2.1 mX12_draw.2.2.1 mX12_draw.2.2.2 ∈ ax_U ∧ (mX12_draw.1.cls ≠ "java/lang/invoke/MethodHandle" ∧ mX12_draw.1.cls ≠ "java/lang/invoke/VarHandle" ∧ (parseMethodDescriptor mX12_draw.1.desc).map (fun d => d.parameters.length) = some 1) ∧ mX12_draw.2.2.1 ≤ 40 := ⟨ax_in 13 (by decide +kernel) rfl, ax_in 1635 (by decide +kernel) rfl, ⟨by decide +kernel, by decide +kernel, by decide +kernel⟩, by decide⟩
theorem ci_X12_draw : Cond.instanceMethod mX12_draw.1 ∈ ax_U := ax_in 1634 (by decide +kernel) rfl
theorem ce_X12_draw : Cond.selects mX12_draw.1.cls mX12_draw.1 mX12_draw.1 ∈ ax_U := ax_inp (n := 53) 109 (by decide +kernel) rfl
theorem cm_X12_heights : Cond.initialized mX12_heights.1.cls ∈ ax_U ∧ Cond.code mX12_heights.1 mX12_heights.2.1 mX12_heights.2.2.1 mX12_heights.2.2.2 ∈ ax_U ∧ (mX12_heights.1.cls ≠ "java/lang/invoke/MethodHandle" ∧ mX12_heights.1.cls ≠ "java/lang/invoke/VarHandle" ∧ (parseMethodDescriptor mX12_heights.1.desc).map (fun d => d.parameters.length) = some 0) ∧ mX12_heights.2.2.1 ≤ 40 := ⟨ax_in 13 (by decide +kernel) rfl, ax_in 1645 (by decide +kernel) rfl, ⟨by decide +kernel, by decide +kernel, by decide +kernel⟩, by decide⟩
theorem ci_X12_heights : Cond.instanceMethod mX12_heights.1 ∈ ax_U := ax_in 1644 (by decide +kernel) rfl
theorem ce_X12_heights : Cond.selects mX12_heights.1.cls mX12_heights.1 mX12_heights.1 ∈ ax_U := ax_inp (n := 53) 111 (by decide +kernel) rfl
theorem cm_X12_drawStroke : Cond.initialized mX12_drawStroke.1.cls ∈ ax_U ∧ Cond.code mX12_drawStroke.1 mX12_drawStroke.2.1 mX12_drawStroke.2.2.1 mX12_drawStroke.2.2.2 ∈ ax_U ∧ (mX12_drawStroke.1.cls ≠ "java/lang/invoke/MethodHandle" ∧ mX12_drawStroke.1.cls ≠ "java/lang/invoke/VarHandle" ∧ (parseMethodDescriptor mX12_drawStroke.1.desc).map (fun d => d.parameters.length) = some 0) ∧ mX12_drawStroke.2.2.1 ≤ 40 := ⟨ax_in 13 (by decide +kernel) rfl, ax_in 1641 (by decide +kernel) rfl, ⟨by decide +kernel, by decide +kernel, by decide +kernel⟩, by decide⟩
theorem ci_X12_drawStroke : Cond.instanceMethod mX12_drawStroke.1 ∈ ax_U := ax_in 1640 (by decide +kernel) rfl
theorem ce_X12_drawStroke : Cond.selects mX12_drawStroke.1.cls mX12_drawStroke.1 mX12_drawStroke.1 ∈ ax_U := ax_inp (n := 53) 110 (by decide +kernel) rfl
theorem cm_X12_decades : Cond.initialized mX12_decades.1.cls ∈ ax_U ∧ Cond.code mX12_decades.1 mX12_decades.2.1 mX12_decades.2.2.1 mX12_decades.2.2.2 ∈ ax_U ∧ (mX12_decades.1.cls ≠ "java/lang/invoke/MethodHandle" ∧ mX12_decades.1.cls ≠ "java/lang/invoke/VarHandle" ∧ (parseMethodDescriptor mX12_decades.1.desc).map (fun d => d.parameters.length) = some 2) ∧ mX12_decades.2.2.1 ≤ 40 := ⟨ax_in 13 (by decide +kernel) rfl, ax_in 1631 (by decide +kernel) rfl, ⟨by decide +kernel, by decide +kernel, by decide +kernel⟩, by decide⟩
theorem ci_X12_decades : Cond.instanceMethod mX12_decades.1 ∈ ax_U := ax_in 1629 (by decide +kernel) rfl
theorem ce_X12_decades : Cond.selects mX12_decades.1.cls mX12_decades.1 mX12_decades.1 ∈ ax_U := ax_in 1630 (by decide +kernel) rfl
theorem cm_X12_status : Cond.initialized mX12_status.1.cls ∈ ax_U ∧ Cond.code mX12_status.1 mX12_status.2.1 mX12_status.2.2.1 mX12_status.2.2.2 ∈ ax_U ∧ (mX12_status.1.cls ≠ "java/lang/invoke/MethodHandle" ∧ mX12_status.1.cls ≠ "java/lang/invoke/VarHandle" ∧ (parseMethodDescriptor mX12_status.1.desc).map (fun d => d.parameters.length) = some 1) ∧ mX12_status.2.2.1 ≤ 40 := ⟨ax_in 13 (by decide +kernel) rfl, ax_in 1649 (by decide +kernel) rfl, ⟨by decide +kernel, by decide +kernel, by decide +kernel⟩, by decide⟩
theorem ci_X12_status : Cond.instanceMethod mX12_status.1 ∈ ax_U := ax_in 1647 (by decide +kernel) rfl
theorem ce_X12_status : Cond.selects mX12_status.1.cls mX12_status.1 mX12_status.1 ∈ ax_U := ax_in 1648 (by decide +kernel) rfl
theorem cm_X12_undo : Cond.initialized mX12_undo.1.cls ∈ ax_U ∧ Cond.code mX12_undo.1 mX12_undo.2.1 mX12_undo.2.2.1 mX12_undo.2.2.2 ∈ ax_U ∧ (mX12_undo.1.cls ≠ "java/lang/invoke/MethodHandle" ∧ mX12_undo.1.cls ≠ "java/lang/invoke/VarHandle" ∧ (parseMethodDescriptor mX12_undo.1.desc).map (fun d => d.parameters.length) = some 0) ∧ mX12_undo.2.2.1 ≤ 40 := ⟨ax_in 13 (by decide +kernel) rfl, ax_in 1653 (by decide +kernel) rfl, ⟨by decide +kernel, by decide +kernel, by decide +kernel⟩, by decide⟩
theorem ci_X12_undo : Cond.instanceMethod mX12_undo.1 ∈ ax_U := ax_in 1651 (by decide +kernel) rfl
theorem ce_X12_undo : Cond.selects mX12_undo.1.cls mX12_undo.1 mX12_undo.1 ∈ ax_U := ax_in 1652 (by decide +kernel) rfl
theorem cm_X12_log : Cond.initialized mX12_log.1.cls ∈ ax_U ∧ Cond.code mX12_log.1 mX12_log.2.1 mX12_log.2.2.1 mX12_log.2.2.2 ∈ ax_U ∧ (mX12_log.1.cls ≠ "java/lang/invoke/MethodHandle" ∧ mX12_log.1.cls ≠ "java/lang/invoke/VarHandle" ∧ (parseMethodDescriptor mX12_log.1.desc).map (fun d => d.parameters.length) = some 2) ∧ mX12_log.2.2.1 ≤ 40 := ⟨ax_in 13 (by decide +kernel) rfl, ax_in 1657 (by decide +kernel) rfl, ⟨by decide +kernel, by decide +kernel, by decide +kernel⟩, by decide⟩
theorem ci_X12_log : Cond.instanceMethod mX12_log.1 ∈ ax_U := ax_in 1655 (by decide +kernel) rfl
theorem ce_X12_log : Cond.selects mX12_log.1.cls mX12_log.1 mX12_log.1 ∈ ax_U := ax_in 1656 (by decide +kernel) rfl
theorem cm_X12_keeps : Cond.initialized mX12_keeps.1.cls ∈ ax_U ∧ Cond.code mX12_keeps.1 mX12_keeps.2.1 mX12_keeps.2.2.1 mX12_keeps.2.2.2 ∈ ax_U ∧ (mX12_keeps.1.cls ≠ "java/lang/invoke/MethodHandle" ∧ mX12_keeps.1.cls ≠ "java/lang/invoke/VarHandle" ∧ (parseMethodDescriptor mX12_keeps.1.desc).map (fun d => d.parameters.length) = some 3) ∧ mX12_keeps.2.2.1 ≤ 40 := ⟨ax_in 13 (by decide +kernel) rfl, ax_in 1661 (by decide +kernel) rfl, ⟨by decide +kernel, by decide +kernel, by decide +kernel⟩, by decide⟩
theorem ci_X12_keeps : Cond.instanceMethod mX12_keeps.1 ∈ ax_U := ax_in 1659 (by decide +kernel) rfl
theorem ce_X12_keeps : Cond.selects mX12_keeps.1.cls mX12_keeps.1 mX12_keeps.1 ∈ ax_U := ax_in 1660 (by decide +kernel) rfl
theorem cm_X12_burning : Cond.initialized mX12_burning.1.cls ∈ ax_U ∧ Cond.code mX12_burning.1 mX12_burning.2.1 mX12_burning.2.2.1 mX12_burning.2.2.2 ∈ ax_U ∧ (mX12_burning.1.cls ≠ "java/lang/invoke/MethodHandle" ∧ mX12_burning.1.cls ≠ "java/lang/invoke/VarHandle" ∧ (parseMethodDescriptor mX12_burning.1.desc).map (fun d => d.parameters.length) = some 2) ∧ mX12_burning.2.2.1 ≤ 40 := ⟨ax_in 13 (by decide +kernel) rfl, ax_in 1669 (by decide +kernel) rfl, ⟨by decide +kernel, by decide +kernel, by decide +kernel⟩, by decide⟩
theorem ci_X12_burning : Cond.instanceMethod mX12_burning.1 ∈ ax_U := ax_in 1667 (by decide +kernel) rfl
theorem ce_X12_burning : Cond.selects mX12_burning.1.cls mX12_burning.1 mX12_burning.1 ∈ ax_U := ax_in 1668 (by decide +kernel) rfl
theorem cm_X12_lost : Cond.initialized mX12_lost.1.cls ∈ ax_U ∧ Cond.code mX12_lost.1 mX12_lost.2.1 mX12_lost.2.2.1 mX12_lost.2.2.2 ∈ ax_U ∧ (mX12_lost.1.cls ≠ "java/lang/invoke/MethodHandle" ∧ mX12_lost.1.cls ≠ "java/lang/invoke/VarHandle" ∧ (parseMethodDescriptor mX12_lost.1.desc).map (fun d => d.parameters.length) = some 2) ∧ mX12_lost.2.2.1 ≤ 40 := ⟨ax_in 13 (by decide +kernel) rfl, ax_in 1673 (by decide +kernel) rfl, ⟨by decide +kernel, by decide +kernel, by decide +kernel⟩, by decide⟩
theorem ci_X12_lost : Cond.instanceMethod mX12_lost.1 ∈ ax_U := ax_in 1671 (by decide +kernel) rfl
theorem ce_X12_lost : Cond.selects mX12_lost.1.cls mX12_lost.1 mX12_lost.1 ∈ ax_U := ax_in 1672 (by decide +kernel) rfl
theorem cm_X12_tryCouples : Cond.initialized mX12_tryCouples.1.cls ∈ ax_U ∧ Cond.code mX12_tryCouples.1 mX12_tryCouples.2.1 mX12_tryCouples.2.2.1 mX12_tryCouples.2.2.2 ∈ ax_U ∧ (mX12_tryCouples.1.cls ≠ "java/lang/invoke/MethodHandle" ∧ mX12_tryCouples.1.cls ≠ "java/lang/invoke/VarHandle" ∧ (parseMethodDescriptor mX12_tryCouples.1.desc).map (fun d => d.parameters.length) = some 3) ∧ mX12_tryCouples.2.2.1 ≤ 40 := ⟨ax_in 13 (by decide +kernel) rfl, ax_in 1681 (by decide +kernel) rfl, ⟨by decide +kernel, by decide +kernel, by decide +kernel⟩, by decide⟩
theorem ci_X12_tryCouples : Cond.instanceMethod mX12_tryCouples.1 ∈ ax_U := ax_in 1680 (by decide +kernel) rfl
theorem ce_X12_tryCouples : Cond.selects mX12_tryCouples.1.cls mX12_tryCouples.1 mX12_tryCouples.1 ∈ ax_U := ax_inp (n := 53) 113 (by decide +kernel) rfl
theorem cm_X12_couples : Cond.initialized mX12_couples.1.cls ∈ ax_U ∧ Cond.code mX12_couples.1 mX12_couples.2.1 mX12_couples.2.2.1 mX12_couples.2.2.2 ∈ ax_U ∧ (mX12_couples.1.cls ≠ "java/lang/invoke/MethodHandle" ∧ mX12_couples.1.cls ≠ "java/lang/invoke/VarHandle" ∧ (parseMethodDescriptor mX12_couples.1.desc).map (fun d => d.parameters.length) = some 1) ∧ mX12_couples.2.2.1 ≤ 40 := ⟨ax_in 13 (by decide +kernel) rfl, ax_in 1677 (by decide +kernel) rfl, ⟨by decide +kernel, by decide +kernel, by decide +kernel⟩, by decide⟩
theorem ci_X12_couples : Cond.instanceMethod mX12_couples.1 ∈ ax_U := ax_in 1675 (by decide +kernel) rfl
theorem ce_X12_couples : Cond.selects mX12_couples.1.cls mX12_couples.1 mX12_couples.1 ∈ ax_U := ax_in 1676 (by decide +kernel) rfl
theorem cm_X12_burnMany : Cond.initialized mX12_burnMany.1.cls ∈ ax_U ∧ Cond.code mX12_burnMany.1 mX12_burnMany.2.1 mX12_burnMany.2.2.1 mX12_burnMany.2.2.2 ∈ ax_U ∧ (mX12_burnMany.1.cls ≠ "java/lang/invoke/MethodHandle" ∧ mX12_burnMany.1.cls ≠ "java/lang/invoke/VarHandle" ∧ (parseMethodDescriptor mX12_burnMany.1.desc).map (fun d => d.parameters.length) = some 2) ∧ mX12_burnMany.2.2.1 ≤ 40 := ⟨ax_in 13 (by decide +kernel) rfl, ax_in 1689 (by decide +kernel) rfl, ⟨by decide +kernel, by decide +kernel, by decide +kernel⟩, by decide⟩
theorem ci_X12_burnMany : Cond.instanceMethod mX12_burnMany.1 ∈ ax_U := ax_in 1688 (by decide +kernel) rfl
theorem ce_X12_burnMany : Cond.selects mX12_burnMany.1.cls mX12_burnMany.1 mX12_burnMany.1 ∈ ax_U := ax_inp (n := 53) 114 (by decide +kernel) rfl
theorem cm_X12_marry : Cond.initialized mX12_marry.1.cls ∈ ax_U ∧ Cond.code mX12_marry.1 mX12_marry.2.1 mX12_marry.2.2.1 mX12_marry.2.2.2 ∈ ax_U ∧ (mX12_marry.1.cls ≠ "java/lang/invoke/MethodHandle" ∧ mX12_marry.1.cls ≠ "java/lang/invoke/VarHandle" ∧ (parseMethodDescriptor mX12_marry.1.desc).map (fun d => d.parameters.length) = some 3) ∧ mX12_marry.2.2.1 ≤ 40 := ⟨ax_in 13 (by decide +kernel) rfl, ax_in 1685 (by decide +kernel) rfl, ⟨by decide +kernel, by decide +kernel, by decide +kernel⟩, by decide⟩
theorem ci_X12_marry : Cond.instanceMethod mX12_marry.1 ∈ ax_U := ax_in 1683 (by decide +kernel) rfl
theorem ce_X12_marry : Cond.selects mX12_marry.1.cls mX12_marry.1 mX12_marry.1 ∈ ax_U := ax_in 1684 (by decide +kernel) rfl
theorem cm_X12_cutSet : Cond.initialized mX12_cutSet.1.cls ∈ ax_U ∧ Cond.code mX12_cutSet.1 mX12_cutSet.2.1 mX12_cutSet.2.2.1 mX12_cutSet.2.2.2 ∈ ax_U ∧ (mX12_cutSet.1.cls ≠ "java/lang/invoke/MethodHandle" ∧ mX12_cutSet.1.cls ≠ "java/lang/invoke/VarHandle" ∧ (parseMethodDescriptor mX12_cutSet.1.desc).map (fun d => d.parameters.length) = some 2) ∧ mX12_cutSet.2.2.1 ≤ 40 := ⟨ax_in 13 (by decide +kernel) rfl, ax_in 1702 (by decide +kernel) rfl, ⟨by decide +kernel, by decide +kernel, by decide +kernel⟩, by decide⟩
theorem ci_X12_cutSet : Cond.instanceMethod mX12_cutSet.1 ∈ ax_U := ax_in 1701 (by decide +kernel) rfl
theorem ce_X12_cutSet : Cond.selects mX12_cutSet.1.cls mX12_cutSet.1 mX12_cutSet.1 ∈ ax_U := ax_inp (n := 53) 116 (by decide +kernel) rfl
theorem cm_X12_uncut : Cond.initialized mX12_uncut.1.cls ∈ ax_U ∧ Cond.code mX12_uncut.1 mX12_uncut.2.1 mX12_uncut.2.2.1 mX12_uncut.2.2.2 ∈ ax_U ∧ (mX12_uncut.1.cls ≠ "java/lang/invoke/MethodHandle" ∧ mX12_uncut.1.cls ≠ "java/lang/invoke/VarHandle" ∧ (parseMethodDescriptor mX12_uncut.1.desc).map (fun d => d.parameters.length) = some 0) ∧ mX12_uncut.2.2.1 ≤ 40 := ⟨ax_in 13 (by decide +kernel) rfl, ax_in 1698 (by decide +kernel) rfl, ⟨by decide +kernel, by decide +kernel, by decide +kernel⟩, by decide⟩
theorem ci_X12_uncut : Cond.instanceMethod mX12_uncut.1 ∈ ax_U := ax_in 1697 (by decide +kernel) rfl
theorem ce_X12_uncut : Cond.selects mX12_uncut.1.cls mX12_uncut.1 mX12_uncut.1 ∈ ax_U := ax_inp (n := 53) 115 (by decide +kernel) rfl
theorem cm_X12_parting : Cond.initialized mX12_parting.1.cls ∈ ax_U ∧ Cond.code mX12_parting.1 mX12_parting.2.1 mX12_parting.2.2.1 mX12_parting.2.2.2 ∈ ax_U ∧ (mX12_parting.1.cls ≠ "java/lang/invoke/MethodHandle" ∧ mX12_parting.1.cls ≠ "java/lang/invoke/VarHandle" ∧ (parseMethodDescriptor mX12_parting.1.desc).map (fun d => d.parameters.length) = some 3) ∧ mX12_parting.2.2.1 ≤ 40 := ⟨ax_in 13 (by decide +kernel) rfl, ax_in 1694 (by decide +kernel) rfl, ⟨by decide +kernel, by decide +kernel, by decide +kernel⟩, by decide⟩
theorem ci_X12_parting : Cond.instanceMethod mX12_parting.1 ∈ ax_U := ax_in 1692 (by decide +kernel) rfl
theorem ce_X12_parting : Cond.selects mX12_parting.1.cls mX12_parting.1 mX12_parting.1 ∈ ax_U := ax_in 1693 (by decide +kernel) rfl
theorem cm_X12_weakBy : Cond.initialized mX12_weakBy.1.cls ∈ ax_U ∧ Cond.code mX12_weakBy.1 mX12_weakBy.2.1 mX12_weakBy.2.2.1 mX12_weakBy.2.2.2 ∈ ax_U ∧ (mX12_weakBy.1.cls ≠ "java/lang/invoke/MethodHandle" ∧ mX12_weakBy.1.cls ≠ "java/lang/invoke/VarHandle" ∧ (parseMethodDescriptor mX12_weakBy.1.desc).map (fun d => d.parameters.length) = some 1) ∧ mX12_weakBy.2.2.1 ≤ 40 := ⟨ax_in 13 (by decide +kernel) rfl, ax_in 1714 (by decide +kernel) rfl, ⟨by decide +kernel, by decide +kernel, by decide +kernel⟩, by decide⟩
theorem ci_X12_weakBy : Cond.instanceMethod mX12_weakBy.1 ∈ ax_U := ax_in 1713 (by decide +kernel) rfl
theorem ce_X12_weakBy : Cond.selects mX12_weakBy.1.cls mX12_weakBy.1 mX12_weakBy.1 ∈ ax_U := ax_inp (n := 53) 118 (by decide +kernel) rfl
theorem cm_X12_standsOf : Cond.initialized mX12_standsOf.1.cls ∈ ax_U ∧ Cond.code mX12_standsOf.1 mX12_standsOf.2.1 mX12_standsOf.2.2.1 mX12_standsOf.2.2.2 ∈ ax_U ∧ (mX12_standsOf.1.cls ≠ "java/lang/invoke/MethodHandle" ∧ mX12_standsOf.1.cls ≠ "java/lang/invoke/VarHandle" ∧ (parseMethodDescriptor mX12_standsOf.1.desc).map (fun d => d.parameters.length) = some 0) ∧ mX12_standsOf.2.2.1 ≤ 40 := ⟨ax_in 13 (by decide +kernel) rfl, ax_in 1710 (by decide +kernel) rfl, ⟨by decide +kernel, by decide +kernel, by decide +kernel⟩, by decide⟩
theorem ci_X12_standsOf : Cond.instanceMethod mX12_standsOf.1 ∈ ax_U := ax_in 1709 (by decide +kernel) rfl
theorem ce_X12_standsOf : Cond.selects mX12_standsOf.1.cls mX12_standsOf.1 mX12_standsOf.1 ∈ ax_U := ax_inp (n := 53) 117 (by decide +kernel) rfl
theorem cm_X12_stands : Cond.initialized mX12_stands.1.cls ∈ ax_U ∧ Cond.code mX12_stands.1 mX12_stands.2.1 mX12_stands.2.2.1 mX12_stands.2.2.2 ∈ ax_U ∧ (mX12_stands.1.cls ≠ "java/lang/invoke/MethodHandle" ∧ mX12_stands.1.cls ≠ "java/lang/invoke/VarHandle" ∧ (parseMethodDescriptor mX12_stands.1.desc).map (fun d => d.parameters.length) = some 1) ∧ mX12_stands.2.2.1 ≤ 40 := ⟨ax_in 13 (by decide +kernel) rfl, ax_in 1706 (by decide +kernel) rfl, ⟨by decide +kernel, by decide +kernel, by decide +kernel⟩, by decide⟩
theorem ci_X12_stands : Cond.instanceMethod mX12_stands.1 ∈ ax_U := ax_in 1704 (by decide +kernel) rfl
theorem ce_X12_stands : Cond.selects mX12_stands.1.cls mX12_stands.1 mX12_stands.1 ∈ ax_U := ax_in 1705 (by decide +kernel) rfl
theorem cm_X12_earth : Cond.initialized mX12_earth.1.cls ∈ ax_U ∧ Cond.code mX12_earth.1 mX12_earth.2.1 mX12_earth.2.2.1 mX12_earth.2.2.2 ∈ ax_U ∧ (mX12_earth.1.cls ≠ "java/lang/invoke/MethodHandle" ∧ mX12_earth.1.cls ≠ "java/lang/invoke/VarHandle" ∧ (parseMethodDescriptor mX12_earth.1.desc).map (fun d => d.parameters.length) = some 0) ∧ mX12_earth.2.2.1 ≤ 40 := ⟨ax_in 13 (by decide +kernel) rfl, ax_in 1718 (by decide +kernel) rfl, ⟨by decide +kernel, by decide +kernel, by decide +kernel⟩, by decide⟩
theorem ci_X12_earth : Cond.instanceMethod mX12_earth.1 ∈ ax_U := ax_in 1716 (by decide +kernel) rfl
theorem ce_X12_earth : Cond.selects mX12_earth.1.cls mX12_earth.1 mX12_earth.1 ∈ ax_U := ax_in 1717 (by decide +kernel) rfl
theorem cm_X12_single : Cond.initialized mX12_single.1.cls ∈ ax_U ∧ Cond.code mX12_single.1 mX12_single.2.1 mX12_single.2.2.1 mX12_single.2.2.2 ∈ ax_U ∧ (mX12_single.1.cls ≠ "java/lang/invoke/MethodHandle" ∧ mX12_single.1.cls ≠ "java/lang/invoke/VarHandle" ∧ (parseMethodDescriptor mX12_single.1.desc).map (fun d => d.parameters.length) = some 0) ∧ mX12_single.2.2.1 ≤ 40 := ⟨ax_in 13 (by decide +kernel) rfl, ax_in 1722 (by decide +kernel) rfl, ⟨by decide +kernel, by decide +kernel, by decide +kernel⟩, by decide⟩
theorem ci_X12_single : Cond.instanceMethod mX12_single.1 ∈ ax_U := ax_in 1720 (by decide +kernel) rfl
theorem ce_X12_single : Cond.selects mX12_single.1.cls mX12_single.1 mX12_single.1 ∈ ax_U := ax_in 1721 (by decide +kernel) rfl
theorem cm_X12_townBut : Cond.initialized mX12_townBut.1.cls ∈ ax_U ∧ Cond.code mX12_townBut.1 mX12_townBut.2.1 mX12_townBut.2.2.1 mX12_townBut.2.2.2 ∈ ax_U ∧ (mX12_townBut.1.cls ≠ "java/lang/invoke/MethodHandle" ∧ mX12_townBut.1.cls ≠ "java/lang/invoke/VarHandle" ∧ (parseMethodDescriptor mX12_townBut.1.desc).map (fun d => d.parameters.length) = some 2) ∧ mX12_townBut.2.2.1 ≤ 40 := ⟨ax_in 13 (by decide +kernel) rfl, ax_in 1730 (by decide +kernel) rfl, ⟨by decide +kernel, by decide +kernel, by decide +kernel⟩, by decide⟩
theorem ci_X12_townBut : Cond.instanceMethod mX12_townBut.1 ∈ ax_U := ax_in 1729 (by decide +kernel) rfl
theorem ce_X12_townBut : Cond.selects mX12_townBut.1.cls mX12_townBut.1 mX12_townBut.1 ∈ ax_U := ax_inp (n := 53) 119 (by decide +kernel) rfl
theorem cm_X12_town : Cond.initialized mX12_town.1.cls ∈ ax_U ∧ Cond.code mX12_town.1 mX12_town.2.1 mX12_town.2.2.1 mX12_town.2.2.2 ∈ ax_U ∧ (mX12_town.1.cls ≠ "java/lang/invoke/MethodHandle" ∧ mX12_town.1.cls ≠ "java/lang/invoke/VarHandle" ∧ (parseMethodDescriptor mX12_town.1.desc).map (fun d => d.parameters.length) = some 1) ∧ mX12_town.2.2.1 ≤ 40 := ⟨ax_in 13 (by decide +kernel) rfl, ax_in 1726 (by decide +kernel) rfl, ⟨by decide +kernel, by decide +kernel, by decide +kernel⟩, by decide⟩
theorem ci_X12_town : Cond.instanceMethod mX12_town.1 ∈ ax_U := ax_in 1724 (by decide +kernel) rfl
theorem ce_X12_town : Cond.selects mX12_town.1.cls mX12_town.1 mX12_town.1 ∈ ax_U := ax_in 1725 (by decide +kernel) rfl
theorem cm_X12_net : Cond.initialized mX12_net.1.cls ∈ ax_U ∧ Cond.code mX12_net.1 mX12_net.2.1 mX12_net.2.2.1 mX12_net.2.2.2 ∈ ax_U ∧ (mX12_net.1.cls ≠ "java/lang/invoke/MethodHandle" ∧ mX12_net.1.cls ≠ "java/lang/invoke/VarHandle" ∧ (parseMethodDescriptor mX12_net.1.desc).map (fun d => d.parameters.length) = some 1) ∧ mX12_net.2.2.1 ≤ 40 := ⟨ax_in 13 (by decide +kernel) rfl, ax_in 1734 (by decide +kernel) rfl, ⟨by decide +kernel, by decide +kernel, by decide +kernel⟩, by decide⟩
theorem ci_X12_net : Cond.instanceMethod mX12_net.1 ∈ ax_U := ax_in 1732 (by decide +kernel) rfl
theorem ce_X12_net : Cond.selects mX12_net.1.cls mX12_net.1 mX12_net.1 ∈ ax_U := ax_in 1733 (by decide +kernel) rfl
theorem cm_X12_mostKept : Cond.initialized mX12_mostKept.1.cls ∈ ax_U ∧ Cond.code mX12_mostKept.1 mX12_mostKept.2.1 mX12_mostKept.2.2.1 mX12_mostKept.2.2.2 ∈ ax_U ∧ (mX12_mostKept.1.cls ≠ "java/lang/invoke/MethodHandle" ∧ mX12_mostKept.1.cls ≠ "java/lang/invoke/VarHandle" ∧ (parseMethodDescriptor mX12_mostKept.1.desc).map (fun d => d.parameters.length) = some 4) ∧ mX12_mostKept.2.2.1 ≤ 40 := ⟨ax_in 13 (by decide +kernel) rfl, ax_in 1759 (by decide +kernel) rfl, ⟨by decide +kernel, by decide +kernel, by decide +kernel⟩, by decide⟩
theorem ci_X12_mostKept : Cond.instanceMethod mX12_mostKept.1 ∈ ax_U := ax_in 1758 (by decide +kernel) rfl
theorem ce_X12_mostKept : Cond.selects mX12_mostKept.1.cls mX12_mostKept.1 mX12_mostKept.1 ∈ ax_U := ax_inp (n := 53) 123 (by decide +kernel) rfl
theorem cm_X12_gameOf : Cond.initialized mX12_gameOf.1.cls ∈ ax_U ∧ Cond.code mX12_gameOf.1 mX12_gameOf.2.1 mX12_gameOf.2.2.1 mX12_gameOf.2.2.2 ∈ ax_U ∧ (mX12_gameOf.1.cls ≠ "java/lang/invoke/MethodHandle" ∧ mX12_gameOf.1.cls ≠ "java/lang/invoke/VarHandle" ∧ (parseMethodDescriptor mX12_gameOf.1.desc).map (fun d => d.parameters.length) = some 4) ∧ mX12_gameOf.2.2.1 ≤ 40 := ⟨ax_in 13 (by decide +kernel) rfl, ax_in 1755 (by decide +kernel) rfl, ⟨by decide +kernel, by decide +kernel, by decide +kernel⟩, by decide⟩
theorem ci_X12_gameOf : Cond.instanceMethod mX12_gameOf.1 ∈ ax_U := ax_in 1754 (by decide +kernel) rfl
theorem ce_X12_gameOf : Cond.selects mX12_gameOf.1.cls mX12_gameOf.1 mX12_gameOf.1 ∈ ax_U := ax_inp (n := 53) 122 (by decide +kernel) rfl
theorem cm_X12_areTwo : Cond.initialized mX12_areTwo.1.cls ∈ ax_U ∧ Cond.code mX12_areTwo.1 mX12_areTwo.2.1 mX12_areTwo.2.2.1 mX12_areTwo.2.2.2 ∈ ax_U ∧ (mX12_areTwo.1.cls ≠ "java/lang/invoke/MethodHandle" ∧ mX12_areTwo.1.cls ≠ "java/lang/invoke/VarHandle" ∧ (parseMethodDescriptor mX12_areTwo.1.desc).map (fun d => d.parameters.length) = some 2) ∧ mX12_areTwo.2.2.1 ≤ 40 := ⟨ax_in 13 (by decide +kernel) rfl, ax_in 1750 (by decide +kernel) rfl, ⟨by decide +kernel, by decide +kernel, by decide +kernel⟩, by decide⟩
theorem ci_X12_areTwo : Cond.instanceMethod mX12_areTwo.1 ∈ ax_U := ax_in 1749 (by decide +kernel) rfl
theorem ce_X12_areTwo : Cond.selects mX12_areTwo.1.cls mX12_areTwo.1 mX12_areTwo.1 ∈ ax_U := ax_inp (n := 53) 121 (by decide +kernel) rfl
theorem cm_X12_game : Cond.initialized mX12_game.1.cls ∈ ax_U ∧ Cond.code mX12_game.1 mX12_game.2.1 mX12_game.2.2.1 mX12_game.2.2.2 ∈ ax_U ∧ (mX12_game.1.cls ≠ "java/lang/invoke/MethodHandle" ∧ mX12_game.1.cls ≠ "java/lang/invoke/VarHandle" ∧ (parseMethodDescriptor mX12_game.1.desc).map (fun d => d.parameters.length) = some 6) ∧ mX12_game.2.2.1 ≤ 40 := ⟨ax_in 13 (by decide +kernel) rfl, ax_in 1746 (by decide +kernel) rfl, ⟨by decide +kernel, by decide +kernel, by decide +kernel⟩, by decide⟩
theorem ci_X12_game : Cond.instanceMethod mX12_game.1 ∈ ax_U := ax_in 1744 (by decide +kernel) rfl
theorem ce_X12_game : Cond.selects mX12_game.1.cls mX12_game.1 mX12_game.1 ∈ ax_U := ax_in 1745 (by decide +kernel) rfl
theorem cm_X12_rests : Cond.initialized mX12_rests.1.cls ∈ ax_U ∧ Cond.code mX12_rests.1 mX12_rests.2.1 mX12_rests.2.2.1 mX12_rests.2.2.2 ∈ ax_U ∧ (mX12_rests.1.cls ≠ "java/lang/invoke/MethodHandle" ∧ mX12_rests.1.cls ≠ "java/lang/invoke/VarHandle" ∧ (parseMethodDescriptor mX12_rests.1.desc).map (fun d => d.parameters.length) = some 4) ∧ mX12_rests.2.2.1 ≤ 40 := ⟨ax_in 13 (by decide +kernel) rfl, ax_in 1763 (by decide +kernel) rfl, ⟨by decide +kernel, by decide +kernel, by decide +kernel⟩, by decide⟩
theorem ci_X12_rests : Cond.instanceMethod mX12_rests.1 ∈ ax_U := ax_in 1761 (by decide +kernel) rfl
theorem ce_X12_rests : Cond.selects mX12_rests.1.cls mX12_rests.1 mX12_rests.1 ∈ ax_U := ax_in 1762 (by decide +kernel) rfl
theorem cm_X12_leaves : Cond.initialized mX12_leaves.1.cls ∈ ax_U ∧ Cond.code mX12_leaves.1 mX12_leaves.2.1 mX12_leaves.2.2.1 mX12_leaves.2.2.2 ∈ ax_U ∧ (mX12_leaves.1.cls ≠ "java/lang/invoke/MethodHandle" ∧ mX12_leaves.1.cls ≠ "java/lang/invoke/VarHandle" ∧ (parseMethodDescriptor mX12_leaves.1.desc).map (fun d => d.parameters.length) = some 1) ∧ mX12_leaves.2.2.1 ≤ 40 := ⟨ax_in 13 (by decide +kernel) rfl, ax_in 1767 (by decide +kernel) rfl, ⟨by decide +kernel, by decide +kernel, by decide +kernel⟩, by decide⟩
theorem ci_X12_leaves : Cond.instanceMethod mX12_leaves.1 ∈ ax_U := ax_in 1765 (by decide +kernel) rfl
theorem ce_X12_leaves : Cond.selects mX12_leaves.1.cls mX12_leaves.1 mX12_leaves.1 ∈ ax_U := ax_in 1766 (by decide +kernel) rfl
theorem cm_X12_scorched : Cond.initialized mX12_scorched.1.cls ∈ ax_U ∧ Cond.code mX12_scorched.1 mX12_scorched.2.1 mX12_scorched.2.2.1 mX12_scorched.2.2.2 ∈ ax_U ∧ (mX12_scorched.1.cls ≠ "java/lang/invoke/MethodHandle" ∧ mX12_scorched.1.cls ≠ "java/lang/invoke/VarHandle" ∧ (parseMethodDescriptor mX12_scorched.1.desc).map (fun d => d.parameters.length) = some 4) ∧ mX12_scorched.2.2.1 ≤ 40 := ⟨ax_in 13 (by decide +kernel) rfl, ax_in 1771 (by decide +kernel) rfl, ⟨by decide +kernel, by decide +kernel, by decide +kernel⟩, by decide⟩
theorem ci_X12_scorched : Cond.instanceMethod mX12_scorched.1 ∈ ax_U := ax_in 1769 (by decide +kernel) rfl
theorem ce_X12_scorched : Cond.selects mX12_scorched.1.cls mX12_scorched.1 mX12_scorched.1 ∈ ax_U := ax_in 1770 (by decide +kernel) rfl
theorem cm_X12_isSo : Cond.initialized mX12_isSo.1.cls ∈ ax_U ∧ Cond.code mX12_isSo.1 mX12_isSo.2.1 mX12_isSo.2.2.1 mX12_isSo.2.2.2 ∈ ax_U ∧ (mX12_isSo.1.cls ≠ "java/lang/invoke/MethodHandle" ∧ mX12_isSo.1.cls ≠ "java/lang/invoke/VarHandle" ∧ (parseMethodDescriptor mX12_isSo.1.desc).map (fun d => d.parameters.length) = some 2) ∧ mX12_isSo.2.2.1 ≤ 40 := ⟨ax_in 13 (by decide +kernel) rfl, ax_in 1783 (by decide +kernel) rfl, ⟨by decide +kernel, by decide +kernel, by decide +kernel⟩, by decide⟩
theorem ci_X12_isSo : Cond.instanceMethod mX12_isSo.1 ∈ ax_U := ax_in 1782 (by decide +kernel) rfl
theorem ce_X12_isSo : Cond.selects mX12_isSo.1.cls mX12_isSo.1 mX12_isSo.1 ∈ ax_U := ax_inp (n := 53) 125 (by decide +kernel) rfl
theorem cm_X12_areCuts : Cond.initialized mX12_areCuts.1.cls ∈ ax_U ∧ Cond.code mX12_areCuts.1 mX12_areCuts.2.1 mX12_areCuts.2.2.1 mX12_areCuts.2.2.2 ∈ ax_U ∧ (mX12_areCuts.1.cls ≠ "java/lang/invoke/MethodHandle" ∧ mX12_areCuts.1.cls ≠ "java/lang/invoke/VarHandle" ∧ (parseMethodDescriptor mX12_areCuts.1.desc).map (fun d => d.parameters.length) = some 1) ∧ mX12_areCuts.2.2.1 ≤ 40 := ⟨ax_in 13 (by decide +kernel) rfl, ax_in 1779 (by decide +kernel) rfl, ⟨by decide +kernel, by decide +kernel, by decide +kernel⟩, by decide⟩
theorem ci_X12_areCuts : Cond.instanceMethod mX12_areCuts.1 ∈ ax_U := ax_in 1778 (by decide +kernel) rfl
theorem ce_X12_areCuts : Cond.selects mX12_areCuts.1.cls mX12_areCuts.1 mX12_areCuts.1 ∈ ax_U := ax_inp (n := 53) 124 (by decide +kernel) rfl
theorem cm_X12_who : Cond.initialized mX12_who.1.cls ∈ ax_U ∧ Cond.code mX12_who.1 mX12_who.2.1 mX12_who.2.2.1 mX12_who.2.2.2 ∈ ax_U ∧ (mX12_who.1.cls ≠ "java/lang/invoke/MethodHandle" ∧ mX12_who.1.cls ≠ "java/lang/invoke/VarHandle" ∧ (parseMethodDescriptor mX12_who.1.desc).map (fun d => d.parameters.length) = some 2) ∧ mX12_who.2.2.1 ≤ 40 := ⟨ax_in 13 (by decide +kernel) rfl, ax_in 1775 (by decide +kernel) rfl, ⟨by decide +kernel, by decide +kernel, by decide +kernel⟩, by decide⟩
theorem ci_X12_who : Cond.instanceMethod mX12_who.1 ∈ ax_U := ax_in 1773 (by decide +kernel) rfl
theorem ce_X12_who : Cond.selects mX12_who.1.cls mX12_who.1 mX12_who.1 ∈ ax_U := ax_in 1774 (by decide +kernel) rfl
theorem cm_X12_sure : Cond.initialized mX12_sure.1.cls ∈ ax_U ∧ Cond.code mX12_sure.1 mX12_sure.2.1 mX12_sure.2.2.1 mX12_sure.2.2.2 ∈ ax_U ∧ (mX12_sure.1.cls ≠ "java/lang/invoke/MethodHandle" ∧ mX12_sure.1.cls ≠ "java/lang/invoke/VarHandle" ∧ (parseMethodDescriptor mX12_sure.1.desc).map (fun d => d.parameters.length) = some 1) ∧ mX12_sure.2.2.1 ≤ 40 := ⟨ax_in 13 (by decide +kernel) rfl, ax_in 1787 (by decide +kernel) rfl, ⟨by decide +kernel, by decide +kernel, by decide +kernel⟩, by decide⟩
theorem ci_X12_sure : Cond.instanceMethod mX12_sure.1 ∈ ax_U := ax_in 1785 (by decide +kernel) rfl
theorem ce_X12_sure : Cond.selects mX12_sure.1.cls mX12_sure.1 mX12_sure.1 ∈ ax_U := ax_in 1786 (by decide +kernel) rfl
theorem cm_X12_best : Cond.initialized mX12_best.1.cls ∈ ax_U ∧ Cond.code mX12_best.1 mX12_best.2.1 mX12_best.2.2.1 mX12_best.2.2.2 ∈ ax_U ∧ (mX12_best.1.cls ≠ "java/lang/invoke/MethodHandle" ∧ mX12_best.1.cls ≠ "java/lang/invoke/VarHandle" ∧ (parseMethodDescriptor mX12_best.1.desc).map (fun d => d.parameters.length) = some 1) ∧ mX12_best.2.2.1 ≤ 40 := ⟨ax_in 13 (by decide +kernel) rfl, ax_in 1791 (by decide +kernel) rfl, ⟨by decide +kernel, by decide +kernel, by decide +kernel⟩, by decide⟩
theorem ci_X12_best : Cond.instanceMethod mX12_best.1 ∈ ax_U := ax_in 1789 (by decide +kernel) rfl
theorem ce_X12_best : Cond.selects mX12_best.1.cls mX12_best.1 mX12_best.1 ∈ ax_U := ax_in 1790 (by decide +kernel) rfl
theorem cm_X12_oddsOf : Cond.initialized mX12_oddsOf.1.cls ∈ ax_U ∧ Cond.code mX12_oddsOf.1 mX12_oddsOf.2.1 mX12_oddsOf.2.2.1 mX12_oddsOf.2.2.2 ∈ ax_U ∧ (mX12_oddsOf.1.cls ≠ "java/lang/invoke/MethodHandle" ∧ mX12_oddsOf.1.cls ≠ "java/lang/invoke/VarHandle" ∧ (parseMethodDescriptor mX12_oddsOf.1.desc).map (fun d => d.parameters.length) = some 2) ∧ mX12_oddsOf.2.2.1 ≤ 40 := ⟨ax_in 13 (by decide +kernel) rfl, ax_in 1799 (by decide +kernel) rfl, ⟨by decide +kernel, by decide +kernel, by decide +kernel⟩, by decide⟩
theorem ci_X12_oddsOf : Cond.instanceMethod mX12_oddsOf.1 ∈ ax_U := ax_in 1798 (by decide +kernel) rfl
theorem ce_X12_oddsOf : Cond.selects mX12_oddsOf.1.cls mX12_oddsOf.1 mX12_oddsOf.1 ∈ ax_U := ax_inp (n := 53) 126 (by decide +kernel) rfl
theorem cm_X12_odds : Cond.initialized mX12_odds.1.cls ∈ ax_U ∧ Cond.code mX12_odds.1 mX12_odds.2.1 mX12_odds.2.2.1 mX12_odds.2.2.2 ∈ ax_U ∧ (mX12_odds.1.cls ≠ "java/lang/invoke/MethodHandle" ∧ mX12_odds.1.cls ≠ "java/lang/invoke/VarHandle" ∧ (parseMethodDescriptor mX12_odds.1.desc).map (fun d => d.parameters.length) = some 2) ∧ mX12_odds.2.2.1 ≤ 40 := ⟨ax_in 13 (by decide +kernel) rfl, ax_in 1795 (by decide +kernel) rfl, ⟨by decide +kernel, by decide +kernel, by decide +kernel⟩, by decide⟩
theorem ci_X12_odds : Cond.instanceMethod mX12_odds.1 ∈ ax_U := ax_in 1793 (by decide +kernel) rfl
theorem ce_X12_odds : Cond.selects mX12_odds.1.cls mX12_odds.1 mX12_odds.1 ∈ ax_U := ax_in 1794 (by decide +kernel) rfl
theorem cm_X12_premium : Cond.initialized mX12_premium.1.cls ∈ ax_U ∧ Cond.code mX12_premium.1 mX12_premium.2.1 mX12_premium.2.2.1 mX12_premium.2.2.2 ∈ ax_U ∧ (mX12_premium.1.cls ≠ "java/lang/invoke/MethodHandle" ∧ mX12_premium.1.cls ≠ "java/lang/invoke/VarHandle" ∧ (parseMethodDescriptor mX12_premium.1.desc).map (fun d => d.parameters.length) = some 3) ∧ mX12_premium.2.2.1 ≤ 40 := ⟨ax_in 13 (by decide +kernel) rfl, ax_in 1804 (by decide +kernel) rfl, ⟨by decide +kernel, by decide +kernel, by decide +kernel⟩, by decide⟩
theorem ci_X12_premium : Cond.instanceMethod mX12_premium.1 ∈ ax_U := ax_in 1802 (by decide +kernel) rfl
theorem ce_X12_premium : Cond.selects mX12_premium.1.cls mX12_premium.1 mX12_premium.1 ∈ ax_U := ax_in 1803 (by decide +kernel) rfl
theorem cm_X12_test : Cond.initialized mX12_test.1.cls ∈ ax_U ∧ Cond.code mX12_test.1 mX12_test.2.1 mX12_test.2.2.1 mX12_test.2.2.2 ∈ ax_U ∧ (mX12_test.1.cls ≠ "java/lang/invoke/MethodHandle" ∧ mX12_test.1.cls ≠ "java/lang/invoke/VarHandle" ∧ (parseMethodDescriptor mX12_test.1.desc).map (fun d => d.parameters.length) = some 2) ∧ mX12_test.2.2.1 ≤ 40 := ⟨ax_in 13 (by decide +kernel) rfl, ax_in 1808 (by decide +kernel) rfl, ⟨by decide +kernel, by decide +kernel, by decide +kernel⟩, by decide⟩
theorem ci_X12_test : Cond.instanceMethod mX12_test.1 ∈ ax_U := ax_in 1806 (by decide +kernel) rfl
theorem ce_X12_test : Cond.selects mX12_test.1.cls mX12_test.1 mX12_test.1 ∈ ax_U := ax_in 1807 (by decide +kernel) rfl
theorem cm_X12_stroke : Cond.initialized mX12_stroke.1.cls ∈ ax_U ∧ Cond.code mX12_stroke.1 mX12_stroke.2.1 mX12_stroke.2.2.1 mX12_stroke.2.2.2 ∈ ax_U ∧ (mX12_stroke.1.cls ≠ "java/lang/invoke/MethodHandle" ∧ mX12_stroke.1.cls ≠ "java/lang/invoke/VarHandle" ∧ (parseMethodDescriptor mX12_stroke.1.desc).map (fun d => d.parameters.length) = some 0) ∧ mX12_stroke.2.2.1 ≤ 40 := ⟨ax_in 13 (by decide +kernel) rfl, ax_in 1812 (by decide +kernel) rfl, ⟨by decide +kernel, by decide +kernel, by decide +kernel⟩, by decide⟩
theorem ci_X12_stroke : Cond.instanceMethod mX12_stroke.1 ∈ ax_U := ax_in 1810 (by decide +kernel) rfl
theorem ce_X12_stroke : Cond.selects mX12_stroke.1.cls mX12_stroke.1 mX12_stroke.1 ∈ ax_U := ax_in 1811 (by decide +kernel) rfl
theorem cm_X12_far : Cond.initialized mX12_far.1.cls ∈ ax_U ∧ Cond.code mX12_far.1 mX12_far.2.1 mX12_far.2.2.1 mX12_far.2.2.2 ∈ ax_U ∧ (mX12_far.1.cls ≠ "java/lang/invoke/MethodHandle" ∧ mX12_far.1.cls ≠ "java/lang/invoke/VarHandle" ∧ (parseMethodDescriptor mX12_far.1.desc).map (fun d => d.parameters.length) = some 2) ∧ mX12_far.2.2.1 ≤ 40 := ⟨ax_in 13 (by decide +kernel) rfl, ax_in 1816 (by decide +kernel) rfl, ⟨by decide +kernel, by decide +kernel, by decide +kernel⟩, by decide⟩
theorem ci_X12_far : Cond.instanceMethod mX12_far.1 ∈ ax_U := ax_in 1814 (by decide +kernel) rfl
theorem ce_X12_far : Cond.selects mX12_far.1.cls mX12_far.1 mX12_far.1 ∈ ax_U := ax_in 1815 (by decide +kernel) rfl
theorem cm_X12_most : Cond.initialized mX12_most.1.cls ∈ ax_U ∧ Cond.code mX12_most.1 mX12_most.2.1 mX12_most.2.2.1 mX12_most.2.2.2 ∈ ax_U ∧ (mX12_most.1.cls ≠ "java/lang/invoke/MethodHandle" ∧ mX12_most.1.cls ≠ "java/lang/invoke/VarHandle" ∧ (parseMethodDescriptor mX12_most.1.desc).map (fun d => d.parameters.length) = some 1) ∧ mX12_most.2.2.1 ≤ 40 := ⟨ax_in 13 (by decide +kernel) rfl, ax_in 1820 (by decide +kernel) rfl, ⟨by decide +kernel, by decide +kernel, by decide +kernel⟩, by decide⟩
theorem ci_X12_most : Cond.instanceMethod mX12_most.1 ∈ ax_U := ax_in 1818 (by decide +kernel) rfl
theorem ce_X12_most : Cond.selects mX12_most.1.cls mX12_most.1 mX12_most.1 ∈ ax_U := ax_in 1819 (by decide +kernel) rfl
theorem cm_X12_image : Cond.initialized mX12_image.1.cls ∈ ax_U ∧ Cond.code mX12_image.1 mX12_image.2.1 mX12_image.2.2.1 mX12_image.2.2.2 ∈ ax_U ∧ (mX12_image.1.cls ≠ "java/lang/invoke/MethodHandle" ∧ mX12_image.1.cls ≠ "java/lang/invoke/VarHandle" ∧ (parseMethodDescriptor mX12_image.1.desc).map (fun d => d.parameters.length) = some 0) ∧ mX12_image.2.2.1 ≤ 40 := ⟨ax_in 13 (by decide +kernel) rfl, ax_in 1824 (by decide +kernel) rfl, ⟨by decide +kernel, by decide +kernel, by decide +kernel⟩, by decide⟩
theorem ci_X12_image : Cond.instanceMethod mX12_image.1 ∈ ax_U := ax_in 1822 (by decide +kernel) rfl
theorem ce_X12_image : Cond.selects mX12_image.1.cls mX12_image.1 mX12_image.1 ∈ ax_U := ax_in 1823 (by decide +kernel) rfl
theorem cm_X12_back : Cond.initialized mX12_back.1.cls ∈ ax_U ∧ Cond.code mX12_back.1 mX12_back.2.1 mX12_back.2.2.1 mX12_back.2.2.2 ∈ ax_U ∧ (mX12_back.1.cls ≠ "java/lang/invoke/MethodHandle" ∧ mX12_back.1.cls ≠ "java/lang/invoke/VarHandle" ∧ (parseMethodDescriptor mX12_back.1.desc).map (fun d => d.parameters.length) = some 0) ∧ mX12_back.2.2.1 ≤ 40 := ⟨ax_in 13 (by decide +kernel) rfl, ax_in 1828 (by decide +kernel) rfl, ⟨by decide +kernel, by decide +kernel, by decide +kernel⟩, by decide⟩
theorem ci_X12_back : Cond.instanceMethod mX12_back.1 ∈ ax_U := ax_in 1826 (by decide +kernel) rfl
theorem ce_X12_back : Cond.selects mX12_back.1.cls mX12_back.1 mX12_back.1 ∈ ax_U := ax_in 1827 (by decide +kernel) rfl
theorem cm_X12_count : Cond.initialized mX12_count.1.cls ∈ ax_U ∧ Cond.code mX12_count.1 mX12_count.2.1 mX12_count.2.2.1 mX12_count.2.2.2 ∈ ax_U ∧ (mX12_count.1.cls ≠ "java/lang/invoke/MethodHandle" ∧ mX12_count.1.cls ≠ "java/lang/invoke/VarHandle" ∧ (parseMethodDescriptor mX12_count.1.desc).map (fun d => d.parameters.length) = some 1) ∧ mX12_count.2.2.1 ≤ 40 := ⟨ax_in 13 (by decide +kernel) rfl, ax_in 1832 (by decide +kernel) rfl, ⟨by decide +kernel, by decide +kernel, by decide +kernel⟩, by decide⟩
theorem ci_X12_count : Cond.instanceMethod mX12_count.1 ∈ ax_U := ax_in 1830 (by decide +kernel) rfl
theorem ce_X12_count : Cond.selects mX12_count.1.cls mX12_count.1 mX12_count.1 ∈ ax_U := ax_in 1831 (by decide +kernel) rfl
theorem cm_J6_bitCount_0f7a4 : Cond.initialized mJ6_bitCount_0f7a4.1.cls ∈ ax_U ∧ Cond.code mJ6_bitCount_0f7a4.1 mJ6_bitCount_0f7a4.2.1 mJ6_bitCount_0f7a4.2.2.1 mJ6_bitCount_0f7a4.2.2.2 ∈ ax_U ∧ (mJ6_bitCount_0f7a4.1.cls ≠ "java/lang/invoke/MethodHandle" ∧ mJ6_bitCount_0f7a4.1.cls ≠ "java/lang/invoke/VarHandle" ∧ (parseMethodDescriptor mJ6_bitCount_0f7a4.1.desc).map (fun d => d.parameters.length) = some 1) ∧ mJ6_bitCount_0f7a4.2.2.1 ≤ 40 := ⟨ax_in 21 (by decide +kernel) rfl, ax_in 680 (by decide +kernel) rfl, ⟨by decide +kernel, by decide +kernel, by decide +kernel⟩, by decide⟩
theorem cs_J6_bitCount_0f7a4 : Cond.static mJ6_bitCount_0f7a4.1 ∈ ax_U := ax_in 679 (by decide +kernel) rfl
theorem cm_J6_numberOfTrailingZeros_0f7a4 : Cond.initialized mJ6_numberOfTrailingZeros_0f7a4.1.cls ∈ ax_U ∧ Cond.code mJ6_numberOfTrailingZeros_0f7a4.1 mJ6_numberOfTrailingZeros_0f7a4.2.1 mJ6_numberOfTrailingZeros_0f7a4.2.2.1 mJ6_numberOfTrailingZeros_0f7a4.2.2.2 ∈ ax_U ∧ (mJ6_numberOfTrailingZeros_0f7a4.1.cls ≠ "java/lang/invoke/MethodHandle" ∧ mJ6_numberOfTrailingZeros_0f7a4.1.cls ≠ "java/lang/invoke/VarHandle" ∧ (parseMethodDescriptor mJ6_numberOfTrailingZeros_0f7a4.1.desc).map (fun d => d.parameters.length) = some 1) ∧ mJ6_numberOfTrailingZeros_0f7a4.2.2.1 ≤ 40 := ⟨ax_in 21 (by decide +kernel) rfl, ax_in 1737 (by decide +kernel) rfl, ⟨by decide +kernel, by decide +kernel, by decide +kernel⟩, by decide⟩
theorem cs_J6_numberOfTrailingZeros_0f7a4 : Cond.static mJ6_numberOfTrailingZeros_0f7a4.1 ∈ ax_U := ax_in 1736 (by decide +kernel) rfl
theorem cm_J7_fill_53178 : Cond.initialized mJ7_fill_53178.1.cls ∈ ax_U ∧ Cond.code mJ7_fill_53178.1 mJ7_fill_53178.2.1 mJ7_fill_53178.2.2.1 mJ7_fill_53178.2.2.2 ∈ ax_U ∧ (mJ7_fill_53178.1.cls ≠ "java/lang/invoke/MethodHandle" ∧ mJ7_fill_53178.1.cls ≠ "java/lang/invoke/VarHandle" ∧ (parseMethodDescriptor mJ7_fill_53178.1.desc).map (fun d => d.parameters.length) = some 2) ∧ mJ7_fill_53178.2.2.1 ≤ 40 := ⟨ax_in 16 (by decide +kernel) rfl, ax_in 572 (by decide +kernel) rfl, ⟨by decide +kernel, by decide +kernel, by decide +kernel⟩, by decide⟩
theorem cs_J7_fill_53178 : Cond.static mJ7_fill_53178.1 ∈ ax_U := ax_in 571 (by decide +kernel) rfl
theorem lk_X0_71 : ax_vl RX0 71 mX0_touchAnew 0 := ⟨⟨ax_in 566 (by decide +kernel) rfl, cm_X0_touchAnew.1, cm_X0_touchAnew.2.1, cm_X0_touchAnew.2.2.1, cm_X0_touchAnew.2.2.2⟩, ci_X0_touchAnew, ce_X0_touchAnew⟩
theorem lk_X0_74 : ax_nlk RX0 74 mX11_bitOf 2 := ⟨by decide +kernel, cm_X11_bitOf.1, cm_X11_bitOf.2.1, cm_X11_bitOf.2.2.1, cm_X11_bitOf.2.2.2, cs_X11_bitOf⟩
theorem lk_X0_78 : ax_vl RX0 78 mX0_uncut 0 := ⟨⟨ax_in 598 (by decide +kernel) rfl, cm_X0_uncut.1, cm_X0_uncut.2.1, cm_X0_uncut.2.2.1, cm_X0_uncut.2.2.2⟩, ci_X0_uncut, ce_X0_uncut⟩
theorem lk_X0_82 : ax_sl RX0 82 mJ7_fill_53178 2 := ⟨⟨ax_in 570 (by decide +kernel) rfl, cm_J7_fill_53178.1, cm_J7_fill_53178.2.1, cm_J7_fill_53178.2.2.1, cm_J7_fill_53178.2.2.2⟩, cs_J7_fill_53178⟩
theorem lk_X0_88 : ax_vl RX0 88 mX0_touching 2 := ⟨⟨ax_in 741 (by decide +kernel) rfl, cm_X0_touching.1, cm_X0_touching.2.1, cm_X0_touching.2.2.1, cm_X0_touching.2.2.2⟩, ci_X0_touching, ce_X0_touching⟩
theorem mk_X0_91 : Cond.methodLink RX0 91 Lib.Math.abs.name ∈ ax_U := ax_in 750 (by decide +kernel) rfl
theorem lk_X0_97 : ax_vl RX0 97 mX0_apart 2 := ⟨⟨ax_in 746 (by decide +kernel) rfl, cm_X0_apart.1, cm_X0_apart.2.1, cm_X0_apart.2.2.1, cm_X0_apart.2.2.2⟩, ci_X0_apart, ce_X0_apart⟩
theorem mk_X0_100 : Cond.methodLink RX0 100 Lib.Math.max.name ∈ ax_U := ax_in 724 (by decide +kernel) rfl
theorem mk_X0_103 : Cond.methodLink RX0 103 Lib.Math.min.name ∈ ax_U := ax_in 723 (by decide +kernel) rfl
theorem lk_X0_106 : ax_vl RX0 106 mX0_addCopper 1 := ⟨⟨ax_in 793 (by decide +kernel) rfl, cm_X0_addCopper.1, cm_X0_addCopper.2.1, cm_X0_addCopper.2.2.1, cm_X0_addCopper.2.2.2⟩, ci_X0_addCopper, ce_X0_addCopper⟩
theorem lk_X1_41 : ax_vl RX1 41 mX1_setWithout 4 := ⟨⟨ax_in 442 (by decide +kernel) rfl, cm_X1_setWithout.1, cm_X1_setWithout.2.1, cm_X1_setWithout.2.2.1, cm_X1_setWithout.2.2.2⟩, ci_X1_setWithout, ce_X1_setWithout⟩
theorem lk_X1_45 : ax_vl RX1 45 mX1_readsClause 0 := ⟨⟨ax_in 448 (by decide +kernel) rfl, cm_X1_readsClause.1, cm_X1_readsClause.2.1, cm_X1_readsClause.2.2.1, cm_X1_readsClause.2.2.2⟩, ci_X1_readsClause, ce_X1_readsClause⟩
theorem lk_X1_49 : ax_vl RX1 49 mX9_takes 1 := ⟨⟨ax_in 486 (by decide +kernel) rfl, cm_X9_takes.1, cm_X9_takes.2.1, cm_X9_takes.2.2.1, cm_X9_takes.2.2.2⟩, ci_X9_takes, ce_X9_takes⟩
theorem lk_X1_53 : ax_vl RX1 53 mX9_sign 0 := ⟨⟨ax_in 452 (by decide +kernel) rfl, cm_X9_sign.1, cm_X9_sign.2.1, cm_X9_sign.2.2.1, cm_X9_sign.2.2.2⟩, ci_X9_sign, ce_X9_sign⟩
theorem lk_X1_57 : ax_vl RX1 57 mX1_isWhole 0 := ⟨⟨ax_in 490 (by decide +kernel) rfl, cm_X1_isWhole.1, cm_X1_isWhole.2.1, cm_X1_isWhole.2.2.1, cm_X1_isWhole.2.2.2⟩, ci_X1_isWhole, ce_X1_isWhole⟩
theorem lk_X1_60 : ax_vl RX1 60 mX1_readsItems 4 := ⟨⟨ax_in 456 (by decide +kernel) rfl, cm_X1_readsItems.1, cm_X1_readsItems.2.1, cm_X1_readsItems.2.2.1, cm_X1_readsItems.2.2.2⟩, ci_X1_readsItems, ce_X1_readsItems⟩
theorem lk_X1_71 : ax_vl RX1 71 mX1_itemAt 2 := ⟨⟨ax_in 460 (by decide +kernel) rfl, cm_X1_itemAt.1, cm_X1_itemAt.2.1, cm_X1_itemAt.2.2.1, cm_X1_itemAt.2.2.2⟩, ci_X1_itemAt, ce_X1_itemAt⟩
theorem lk_X1_75 : ax_nlk RX1 75 mX11_bitOf 2 := ⟨by decide +kernel, cm_X11_bitOf.1, cm_X11_bitOf.2.1, cm_X11_bitOf.2.2.1, cm_X11_bitOf.2.2.2, cs_X11_bitOf⟩
theorem lk_X1_78 : ax_vl RX1 78 mX1_readsNumberOf 1 := ⟨⟨ax_in 469 (by decide +kernel) rfl, cm_X1_readsNumberOf.1, cm_X1_readsNumberOf.2.1, cm_X1_readsNumberOf.2.2.1, cm_X1_readsNumberOf.2.2.2⟩, ci_X1_readsNumberOf, ce_X1_readsNumberOf⟩
theorem lk_X1_84 : ax_vl RX1 84 mX9_takesNumber 1 := ⟨⟨ax_in 473 (by decide +kernel) rfl, cm_X9_takesNumber.1, cm_X9_takesNumber.2.1, cm_X9_takesNumber.2.2.1, cm_X9_takesNumber.2.2.2⟩, ci_X9_takesNumber, ce_X9_takesNumber⟩
theorem lk_X1_93 : ax_vl RX1 93 mX1_isWireSound 1 := ⟨⟨ax_in 494 (by decide +kernel) rfl, cm_X1_isWireSound.1, cm_X1_isWireSound.2.1, cm_X1_isWireSound.2.2.1, cm_X1_isWireSound.2.2.2⟩, ci_X1_isWireSound, ce_X1_isWireSound⟩
theorem lk_X1_96 : ax_vl RX1 96 mX1_isChapel 1 := ⟨⟨ax_in 498 (by decide +kernel) rfl, cm_X1_isChapel.1, cm_X1_isChapel.2.1, cm_X1_isChapel.2.2.1, cm_X1_isChapel.2.2.2⟩, ci_X1_isChapel, ce_X1_isChapel⟩
theorem lk_X10_19 : ax_vl RX10 19 mX10_add 1 := ⟨⟨ax_in 883 (by decide +kernel) rfl, cm_X10_add.1, cm_X10_add.2.1, cm_X10_add.2.2.1, cm_X10_add.2.2.2⟩, ci_X10_add, ce_X10_add⟩
theorem lk_X10_23 : ax_nlk RX10 23 mX11_bitOf 2 := ⟨by decide +kernel, cm_X11_bitOf.1, cm_X11_bitOf.2.1, cm_X11_bitOf.2.2.1, cm_X11_bitOf.2.2.2, cs_X11_bitOf⟩
theorem lk_X11_110 : ax_sl RX11 110 mX11_bytesOf 1 := ⟨⟨ax_in 416 (by decide +kernel) rfl, cm_X11_bytesOf.1, cm_X11_bytesOf.2.1, cm_X11_bytesOf.2.2.1, cm_X11_bytesOf.2.2.2⟩, cs_X11_bytesOf⟩
theorem lk_X11_117 : ax_vl RX11 117 mX9_addBytes 1 := ⟨⟨ax_in 419 (by decide +kernel) rfl, cm_X9_addBytes.1, cm_X9_addBytes.2.1, cm_X9_addBytes.2.2.1, cm_X9_addBytes.2.2.2⟩, ci_X9_addBytes, ce_X9_addBytes⟩
theorem lk_X11_121 : ax_sl RX11 121 mX11_isBit 1 := ⟨⟨ax_in 431 (by decide +kernel) rfl, cm_X11_isBit.1, cm_X11_isBit.2.1, cm_X11_isBit.2.2.1, cm_X11_isBit.2.2.2⟩, cs_X11_isBit⟩
theorem lk_X11_125 : ax_vl RX11 125 mX11_tapeReads 1 := ⟨⟨ax_in 434 (by decide +kernel) rfl, cm_X11_tapeReads.1, cm_X11_tapeReads.2.1, cm_X11_tapeReads.2.2.1, cm_X11_tapeReads.2.2.2⟩, ci_X11_tapeReads, ce_X11_tapeReads⟩
theorem lk_X11_134 : ax_vl RX11 134 mX7_add 1 := ⟨⟨ax_in 555 (by decide +kernel) rfl, cm_X7_add.1, cm_X7_add.2.1, cm_X7_add.2.2.1, cm_X7_add.2.2.2⟩, ci_X7_add, ce_X7_add⟩
theorem lk_X11_138 : ax_vl RX11 138 mX0_take 1 := ⟨⟨ax_in 562 (by decide +kernel) rfl, cm_X0_take.1, cm_X0_take.2.1, cm_X0_take.2.2.1, cm_X0_take.2.2.2⟩, ci_X0_take, ce_X0_take⟩
theorem lk_X11_142 : ax_vl RX11 142 mX5_clear 0 := ⟨⟨ax_in 573 (by decide +kernel) rfl, cm_X5_clear.1, cm_X5_clear.2.1, cm_X5_clear.2.2.1, cm_X5_clear.2.2.2⟩, ci_X5_clear, ce_X5_clear⟩
theorem lk_X11_145 : ax_vl RX11 145 mX2_clear 0 := ⟨⟨ax_in 577 (by decide +kernel) rfl, cm_X2_clear.1, cm_X2_clear.2.1, cm_X2_clear.2.2.1, cm_X2_clear.2.2.2⟩, ci_X2_clear, ce_X2_clear⟩
theorem lk_X11_160 : ax_vl RX11 160 mX11_isHouse 1 := ⟨⟨ax_in 631 (by decide +kernel) rfl, cm_X11_isHouse.1, cm_X11_isHouse.2.1, cm_X11_isHouse.2.2.1, cm_X11_isHouse.2.2.2⟩, ci_X11_isHouse, ce_X11_isHouse⟩
theorem lk_X11_185 : ax_vl RX11 185 mX0_live 0 := ⟨⟨ax_in 594 (by decide +kernel) rfl, cm_X0_live.1, cm_X0_live.2.1, cm_X0_live.2.2.1, cm_X0_live.2.2.2⟩, ci_X0_live, ce_X0_live⟩
theorem lk_X11_189 : ax_vl RX11 189 mX0_touching 2 := ⟨⟨ax_in 946 (by decide +kernel) rfl, cm_X0_touching.1, cm_X0_touching.2.1, cm_X0_touching.2.2.1, cm_X0_touching.2.2.2⟩, ci_X0_touching, ce_X0_touching⟩
theorem lk_X11_193 : ax_sl RX11 193 mJ6_bitCount_0f7a4 1 := ⟨⟨ax_in 873 (by decide +kernel) rfl, cm_J6_bitCount_0f7a4.1, cm_J6_bitCount_0f7a4.2.1, cm_J6_bitCount_0f7a4.2.2.1, cm_J6_bitCount_0f7a4.2.2.2⟩, cs_J6_bitCount_0f7a4⟩
theorem lk_X11_200 : ax_vl RX11 200 mX11_isWire 1 := ⟨⟨ax_in 589 (by decide +kernel) rfl, cm_X11_isWire.1, cm_X11_isWire.2.1, cm_X11_isWire.2.2.1, cm_X11_isWire.2.2.2⟩, ci_X11_isWire, ce_X11_isWire⟩
theorem lk_X11_215 : ax_sl RX11 215 mX11_bitOf 2 := ⟨⟨ax_in 593 (by decide +kernel) rfl, cm_X11_bitOf.1, cm_X11_bitOf.2.1, cm_X11_bitOf.2.2.1, cm_X11_bitOf.2.2.2⟩, cs_X11_bitOf⟩
theorem lk_X11_218 : ax_vl RX11 218 mX2_tells 2 := ⟨⟨ax_in 610 (by decide +kernel) rfl, cm_X2_tells.1, cm_X2_tells.2.1, cm_X2_tells.2.2.1, cm_X2_tells.2.2.2⟩, ci_X2_tells, ce_X2_tells⟩
theorem lk_X11_236 : ax_vl RX11 236 mX2_length 0 := ⟨⟨ax_in 625 (by decide +kernel) rfl, cm_X2_length.1, cm_X2_length.2.1, cm_X2_length.2.2.1, cm_X2_length.2.2.2⟩, ci_X2_length, ce_X2_length⟩
theorem lk_X11_242 : ax_vl RX11 242 mX11_refuse 1 := ⟨⟨ax_in 635 (by decide +kernel) rfl, cm_X11_refuse.1, cm_X11_refuse.2.1, cm_X11_refuse.2.2.1, cm_X11_refuse.2.2.2⟩, ci_X11_refuse, ce_X11_refuse⟩
theorem lk_X11_245 : ax_sl RX11 245 mX11_isStroke 1 := ⟨⟨ax_in 639 (by decide +kernel) rfl, cm_X11_isStroke.1, cm_X11_isStroke.2.1, cm_X11_isStroke.2.2.1, cm_X11_isStroke.2.2.2⟩, cs_X11_isStroke⟩
theorem lk_X11_248 : ax_vl RX11 248 mX11_remember 0 := ⟨⟨ax_in 642 (by decide +kernel) rfl, cm_X11_remember.1, cm_X11_remember.2.1, cm_X11_remember.2.2.1, cm_X11_remember.2.2.2⟩, ci_X11_remember, ce_X11_remember⟩
theorem lk_X11_251 : ax_vl RX11 251 mX11_strikeNow 2 := ⟨⟨ax_in 656 (by decide +kernel) rfl, cm_X11_strikeNow.1, cm_X11_strikeNow.2.1, cm_X11_strikeNow.2.2.1, cm_X11_strikeNow.2.2.2⟩, ci_X11_strikeNow, ce_X11_strikeNow⟩
theorem lk_X11_254 : ax_vl RX11 254 mX11_areTwoHouses 2 := ⟨⟨ax_in 733 (by decide +kernel) rfl, cm_X11_areTwoHouses.1, cm_X11_areTwoHouses.2.1, cm_X11_areTwoHouses.2.2.1, cm_X11_areTwoHouses.2.2.2⟩, ci_X11_areTwoHouses, ce_X11_areTwoHouses⟩
theorem lk_X11_258 : ax_vl RX11 258 mX0_mayJoin 2 := ⟨⟨ax_in 737 (by decide +kernel) rfl, cm_X0_mayJoin.1, cm_X0_mayJoin.2.1, cm_X0_mayJoin.2.2.1, cm_X0_mayJoin.2.2.2⟩, ci_X0_mayJoin, ce_X0_mayJoin⟩
theorem lk_X11_261 : ax_vl RX11 261 mX0_price 2 := ⟨⟨ax_in 742 (by decide +kernel) rfl, cm_X0_price.1, cm_X0_price.2.1, cm_X0_price.2.2.1, cm_X0_price.2.2.2⟩, ci_X0_price, ce_X0_price⟩
theorem lk_X11_264 : ax_vl RX11 264 mX0_think 2 := ⟨⟨ax_in 753 (by decide +kernel) rfl, cm_X0_think.1, cm_X0_think.2.1, cm_X0_think.2.2.1, cm_X0_think.2.2.2⟩, ci_X0_think, ce_X0_think⟩
theorem lk_X11_268 : ax_vl RX11 268 mX0_addCopper 1 := ⟨⟨ax_in 761 (by decide +kernel) rfl, cm_X0_addCopper.1, cm_X0_addCopper.2.1, cm_X0_addCopper.2.2.1, cm_X0_addCopper.2.2.2⟩, ci_X0_addCopper, ce_X0_addCopper⟩
theorem lk_X11_271 : ax_vl RX11 271 mX0_bearsEarthed 1 := ⟨⟨ax_in 773 (by decide +kernel) rfl, cm_X0_bearsEarthed.1, cm_X0_bearsEarthed.2.1, cm_X0_bearsEarthed.2.2.1, cm_X0_bearsEarthed.2.2.2⟩, ci_X0_bearsEarthed, ce_X0_bearsEarthed⟩
theorem lk_X11_274 : ax_vl RX11 274 mX11_hasBelt 0 := ⟨⟨ax_in 781 (by decide +kernel) rfl, cm_X11_hasBelt.1, cm_X11_hasBelt.2.1, cm_X11_hasBelt.2.2.1, cm_X11_hasBelt.2.2.2⟩, ci_X11_hasBelt, ce_X11_hasBelt⟩
theorem lk_X11_278 : ax_vl RX11 278 mX11_mayPass 1 := ⟨⟨ax_in 785 (by decide +kernel) rfl, cm_X11_mayPass.1, cm_X11_mayPass.2.1, cm_X11_mayPass.2.2.1, cm_X11_mayPass.2.2.2⟩, ci_X11_mayPass, ce_X11_mayPass⟩
theorem lk_X11_281 : ax_vl RX11 281 mX0_passSummer 0 := ⟨⟨ax_in 789 (by decide +kernel) rfl, cm_X0_passSummer.1, cm_X0_passSummer.2.1, cm_X0_passSummer.2.2.1, cm_X0_passSummer.2.2.2⟩, ci_X0_passSummer, ce_X0_passSummer⟩
theorem lk_X11_287 : ax_vl RX11 287 mX11_draw 1 := ⟨⟨ax_in 802 (by decide +kernel) rfl, cm_X11_draw.1, cm_X11_draw.2.1, cm_X11_draw.2.2.1, cm_X11_draw.2.2.2⟩, ci_X11_draw, ce_X11_draw⟩
theorem lk_X11_290 : ax_vl RX11 290 mX11_strikeByChance 0 := ⟨⟨ax_in 808 (by decide +kernel) rfl, cm_X11_strikeByChance.1, cm_X11_strikeByChance.2.1, cm_X11_strikeByChance.2.2.1, cm_X11_strikeByChance.2.2.2⟩, ci_X11_strikeByChance, ce_X11_strikeByChance⟩
theorem lk_X11_293 : ax_vl RX11 293 mX5_goBack 1 := ⟨⟨ax_in 820 (by decide +kernel) rfl, cm_X5_goBack.1, cm_X5_goBack.2.1, cm_X5_goBack.2.2.1, cm_X5_goBack.2.2.2⟩, ci_X5_goBack, ce_X5_goBack⟩
theorem lk_X11_298 : ax_vl RX11 298 mX0_write 2 := ⟨⟨ax_in 832 (by decide +kernel) rfl, cm_X0_write.1, cm_X0_write.2.1, cm_X0_write.2.2.1, cm_X0_write.2.2.2⟩, ci_X0_write, ce_X0_write⟩
theorem lk_X11_302 : ax_vl RX11 302 mX2_keep 0 := ⟨⟨ax_in 833 (by decide +kernel) rfl, cm_X2_keep.1, cm_X2_keep.2.1, cm_X2_keep.2.2.1, cm_X2_keep.2.2.2⟩, ci_X2_keep, ce_X2_keep⟩
theorem lk_X11_305 : ax_vl RX11 305 mX0_read 2 := ⟨⟨ax_in 842 (by decide +kernel) rfl, cm_X0_read.1, cm_X0_read.2.1, cm_X0_read.2.2.1, cm_X0_read.2.2.2⟩, ci_X0_read, ce_X0_read⟩
theorem lk_X11_308 : ax_vl RX11 308 mX2_giveBack 0 := ⟨⟨ax_in 843 (by decide +kernel) rfl, cm_X2_giveBack.1, cm_X2_giveBack.2.1, cm_X2_giveBack.2.2.1, cm_X2_giveBack.2.2.2⟩, ci_X2_giveBack, ce_X2_giveBack⟩
theorem lk_X11_311 : ax_vl RX11 311 mX8_fall 3 := ⟨⟨ax_in 660 (by decide +kernel) rfl, cm_X8_fall.1, cm_X8_fall.2.1, cm_X8_fall.2.2.1, cm_X8_fall.2.2.2⟩, ci_X8_fall, ce_X8_fall⟩
theorem lk_X11_321 : ax_vl RX11 321 mX11_couldLay 2 := ⟨⟨ax_in 865 (by decide +kernel) rfl, cm_X11_couldLay.1, cm_X11_couldLay.2.1, cm_X11_couldLay.2.2.1, cm_X11_couldLay.2.2.2⟩, ci_X11_couldLay, ce_X11_couldLay⟩
theorem lk_X11_324 : ax_vl RX11 324 mX11_liveWith 2 := ⟨⟨ax_in 869 (by decide +kernel) rfl, cm_X11_liveWith.1, cm_X11_liveWith.2.1, cm_X11_liveWith.2.2.1, cm_X11_liveWith.2.2.2⟩, ci_X11_liveWith, ce_X11_liveWith⟩
theorem lk_X11_327 : ax_vl RX11 327 mX0_uncut 0 := ⟨⟨ax_in 878 (by decide +kernel) rfl, cm_X0_uncut.1, cm_X0_uncut.2.1, cm_X0_uncut.2.2.1, cm_X0_uncut.2.2.2⟩, ci_X0_uncut, ce_X0_uncut⟩
theorem lk_X11_330 : ax_vl RX11 330 mX10_gather 2 := ⟨⟨ax_in 879 (by decide +kernel) rfl, cm_X10_gather.1, cm_X10_gather.2.1, cm_X10_gather.2.2.1, cm_X10_gather.2.2.2⟩, ci_X10_gather, ce_X10_gather⟩
theorem lk_X11_339 : ax_vl RX11 339 mX11_greatestBorne 0 := ⟨⟨ax_in 892 (by decide +kernel) rfl, cm_X11_greatestBorne.1, cm_X11_greatestBorne.2.1, cm_X11_greatestBorne.2.2.1, cm_X11_greatestBorne.2.2.2⟩, ci_X11_greatestBorne, ce_X11_greatestBorne⟩
theorem lk_X11_342 : ax_vl RX11 342 mX11_weakestBy 2 := ⟨⟨ax_in 900 (by decide +kernel) rfl, cm_X11_weakestBy.1, cm_X11_weakestBy.2.1, cm_X11_weakestBy.2.2.1, cm_X11_weakestBy.2.2.2⟩, ci_X11_weakestBy, ce_X11_weakestBy⟩
theorem lk_X11_345 : ax_vl RX11 345 mX0_leastBorne 0 := ⟨⟨ax_in 896 (by decide +kernel) rfl, cm_X0_leastBorne.1, cm_X0_leastBorne.2.1, cm_X0_leastBorne.2.2.1, cm_X0_leastBorne.2.2.2⟩, ci_X0_leastBorne, ce_X0_leastBorne⟩
theorem lk_X11_348 : ax_vl RX11 348 mX7_readBears 0 := ⟨⟨ax_in 908 (by decide +kernel) rfl, cm_X7_readBears.1, cm_X7_readBears.2.1, cm_X7_readBears.2.2.1, cm_X7_readBears.2.2.2⟩, ci_X7_readBears, ce_X7_readBears⟩
theorem lk_X11_351 : ax_vl RX11 351 mX11_standingAfresh 2 := ⟨⟨ax_in 912 (by decide +kernel) rfl, cm_X11_standingAfresh.1, cm_X11_standingAfresh.2.1, cm_X11_standingAfresh.2.2.1, cm_X11_standingAfresh.2.2.2⟩, ci_X11_standingAfresh, ce_X11_standingAfresh⟩
theorem lk_X11_354 : ax_vl RX11 354 mX11_standingAlike 2 := ⟨⟨ax_in 916 (by decide +kernel) rfl, cm_X11_standingAlike.1, cm_X11_standingAlike.2.1, cm_X11_standingAlike.2.2.1, cm_X11_standingAlike.2.2.2⟩, ci_X11_standingAlike, ce_X11_standingAlike⟩
theorem lk_X11_357 : ax_vl RX11 357 mX11_lowest 1 := ⟨⟨ax_in 920 (by decide +kernel) rfl, cm_X11_lowest.1, cm_X11_lowest.2.1, cm_X11_lowest.2.2.1, cm_X11_lowest.2.2.2⟩, ci_X11_lowest, ce_X11_lowest⟩
theorem lk_X11_360 : ax_vl RX11 360 mX4_seek 0 := ⟨⟨ax_in 928 (by decide +kernel) rfl, cm_X4_seek.1, cm_X4_seek.2.1, cm_X4_seek.2.2.1, cm_X4_seek.2.2.2⟩, ci_X4_seek, ce_X4_seek⟩
theorem lk_X11_369 : ax_vl RX11 369 mX0_reach 2 := ⟨⟨ax_in 951 (by decide +kernel) rfl, cm_X0_reach.1, cm_X0_reach.2.1, cm_X0_reach.2.2.1, cm_X0_reach.2.2.2⟩, ci_X0_reach, ce_X0_reach⟩
theorem lk_X11_372 : ax_vl RX11 372 mX11_rings 0 := ⟨⟨ax_in 959 (by decide +kernel) rfl, cm_X11_rings.1, cm_X11_rings.2.1, cm_X11_rings.2.2.1, cm_X11_rings.2.2.2⟩, ci_X11_rings, ce_X11_rings⟩
theorem lk_X11_375 : ax_vl RX11 375 mX11_bridges 0 := ⟨⟨ax_in 963 (by decide +kernel) rfl, cm_X11_bridges.1, cm_X11_bridges.2.1, cm_X11_bridges.2.2.1, cm_X11_bridges.2.2.2⟩, ci_X11_bridges, ce_X11_bridges⟩
theorem lk_X11_378 : ax_vl RX11 378 mX0_apart 2 := ⟨⟨ax_in 971 (by decide +kernel) rfl, cm_X0_apart.1, cm_X0_apart.2.1, cm_X0_apart.2.2.1, cm_X0_apart.2.2.2⟩, ci_X0_apart, ce_X0_apart⟩
theorem lk_X11_381 : ax_vl RX11 381 mX0_highest 1 := ⟨⟨ax_in 976 (by decide +kernel) rfl, cm_X0_highest.1, cm_X0_highest.2.1, cm_X0_highest.2.2.1, cm_X0_highest.2.2.2⟩, ci_X0_highest, ce_X0_highest⟩
theorem lk_X11_385 : ax_vl RX11 385 mX0_saltiest 1 := ⟨⟨ax_in 980 (by decide +kernel) rfl, cm_X0_saltiest.1, cm_X0_saltiest.2.1, cm_X0_saltiest.2.2.1, cm_X0_saltiest.2.2.2⟩, ci_X0_saltiest, ce_X0_saltiest⟩
theorem lk_X11_388 : ax_vl RX11 388 mX11_mayPlay 3 := ⟨⟨ax_in 988 (by decide +kernel) rfl, cm_X11_mayPlay.1, cm_X11_mayPlay.2.1, cm_X11_mayPlay.2.2.1, cm_X11_mayPlay.2.2.2⟩, ci_X11_mayPlay, ce_X11_mayPlay⟩
theorem lk_X11_392 : ax_vl RX11 392 mX11_gain 4 := ⟨⟨ax_in 992 (by decide +kernel) rfl, cm_X11_gain.1, cm_X11_gain.2.1, cm_X11_gain.2.2.1, cm_X11_gain.2.2.2⟩, ci_X11_gain, ce_X11_gain⟩
theorem lk_X11_396 : ax_vl RX11 396 mX11_isRest 5 := ⟨⟨ax_in 1005 (by decide +kernel) rfl, cm_X11_isRest.1, cm_X11_isRest.2.1, cm_X11_isRest.2.2.1, cm_X11_isRest.2.2.2⟩, ci_X11_isRest, ce_X11_isRest⟩
theorem lk_X11_400 : ax_vl RX11 400 mX11_wouldLeave 3 := ⟨⟨ax_in 1013 (by decide +kernel) rfl, cm_X11_wouldLeave.1, cm_X11_wouldLeave.2.1, cm_X11_wouldLeave.2.2.1, cm_X11_wouldLeave.2.2.2⟩, ci_X11_wouldLeave, ce_X11_wouldLeave⟩
theorem lk_X11_403 : ax_vl RX11 403 mX3_add 4 := ⟨⟨ax_in 1021 (by decide +kernel) rfl, cm_X3_add.1, cm_X3_add.2.1, cm_X3_add.2.2.1, cm_X3_add.2.2.2⟩, ci_X3_add, ce_X3_add⟩
theorem lk_X11_406 : ax_vl RX11 406 mX11_gatherFitting 1 := ⟨⟨ax_in 1029 (by decide +kernel) rfl, cm_X11_gatherFitting.1, cm_X11_gatherFitting.2.1, cm_X11_gatherFitting.2.2.1, cm_X11_gatherFitting.2.2.2⟩, ci_X11_gatherFitting, ce_X11_gatherFitting⟩
theorem lk_X11_409 : ax_vl RX11 409 mX11_burningSets 1 := ⟨⟨ax_in 1045 (by decide +kernel) rfl, cm_X11_burningSets.1, cm_X11_burningSets.2.1, cm_X11_burningSets.2.2.1, cm_X11_burningSets.2.2.2⟩, ci_X11_burningSets, ce_X11_burningSets⟩
theorem mk_X11_412 : Cond.methodLink RX11 412 Lib.Math.abs.name ∈ ax_U := ax_in 1049 (by decide +kernel) rfl
theorem lk_X11_417 : ax_vl RX11 417 mX11_burnParts 2 := ⟨⟨ax_in 1054 (by decide +kernel) rfl, cm_X11_burnParts.1, cm_X11_burnParts.2.1, cm_X11_burnParts.2.2.1, cm_X11_burnParts.2.2.2⟩, ci_X11_burnParts, ce_X11_burnParts⟩
theorem lk_X11_431 : ax_vl RX11 431 mX1_reads 0 := ⟨⟨ax_in 438 (by decide +kernel) rfl, cm_X1_reads.1, cm_X1_reads.2.1, cm_X1_reads.2.2.1, cm_X1_reads.2.2.2⟩, ci_X1_reads, ce_X1_reads⟩
theorem lk_X11_434 : ax_vl RX11 434 mX6_reads 0 := ⟨⟨ax_in 502 (by decide +kernel) rfl, cm_X6_reads.1, cm_X6_reads.2.1, cm_X6_reads.2.2.1, cm_X6_reads.2.2.2⟩, ci_X6_reads, ce_X6_reads⟩
theorem lk_X11_435 : ax_vl RX11 435 mX5_remember 2 := ⟨⟨ax_in 646 (by decide +kernel) rfl, cm_X5_remember.1, cm_X5_remember.2.1, cm_X5_remember.2.2.1, cm_X5_remember.2.2.2⟩, ci_X5_remember, ce_X5_remember⟩
theorem lk_X11_438 : ax_vl RX11 438 mX0_scorch 1 := ⟨⟨ax_in 719 (by decide +kernel) rfl, cm_X0_scorch.1, cm_X0_scorch.2.1, cm_X0_scorch.2.2.1, cm_X0_scorch.2.2.2⟩, ci_X0_scorch, ce_X0_scorch⟩
theorem lk_X11_441 : ax_vl RX11 441 mX2_add 3 := ⟨⟨ax_in 725 (by decide +kernel) rfl, cm_X2_add.1, cm_X2_add.2.1, cm_X2_add.2.2.1, cm_X2_add.2.2.2⟩, ci_X2_add, ce_X2_add⟩
theorem lk_X11_444 : ax_vl RX11 444 mX0_heights 0 := ⟨⟨ax_in 812 (by decide +kernel) rfl, cm_X0_heights.1, cm_X0_heights.2.1, cm_X0_heights.2.2.1, cm_X0_heights.2.2.2⟩, ci_X0_heights, ce_X0_heights⟩
theorem mk_X11_451 : Cond.methodLink RX11 451 Lib.Math.max.name ∈ ax_U := ax_in 1000 (by decide +kernel) rfl
theorem lk_X11_454 : ax_vl RX11 454 mX11_mostKept 4 := ⟨⟨ax_in 996 (by decide +kernel) rfl, cm_X11_mostKept.1, cm_X11_mostKept.2.1, cm_X11_mostKept.2.2.1, cm_X11_mostKept.2.2.2⟩, ci_X11_mostKept, ce_X11_mostKept⟩
theorem lk_X11_457 : ax_vl RX11 457 mX11_allSo 1 := ⟨⟨ax_in 1033 (by decide +kernel) rfl, cm_X11_allSo.1, cm_X11_allSo.2.1, cm_X11_allSo.2.2.1, cm_X11_allSo.2.2.2⟩, ci_X11_allSo, ce_X11_allSo⟩
theorem lk_X12_111 : ax_sl RX12 111 mX12_byteOf 6 := ⟨⟨ax_in 1326 (by decide +kernel) rfl, cm_X12_byteOf.1, cm_X12_byteOf.2.1, cm_X12_byteOf.2.2.1, cm_X12_byteOf.2.2.2⟩, cs_X12_byteOf⟩
theorem lk_X12_121 : ax_vl RX12 121 mX12_here 0 := ⟨⟨ax_in 1348 (by decide +kernel) rfl, cm_X12_here.1, cm_X12_here.2.1, cm_X12_here.2.2.1, cm_X12_here.2.2.2⟩, ci_X12_here, ce_X12_here⟩
theorem lk_X12_134 : ax_vl RX12 134 mX12_bad 0 := ⟨⟨ax_in 1375 (by decide +kernel) rfl, cm_X12_bad.1, cm_X12_bad.2.1, cm_X12_bad.2.2.1, cm_X12_bad.2.2.2⟩, ci_X12_bad, ce_X12_bad⟩
theorem lk_X12_137 : ax_vl RX12 137 mX12_look 0 := ⟨⟨ax_in 1344 (by decide +kernel) rfl, cm_X12_look.1, cm_X12_look.2.1, cm_X12_look.2.2.1, cm_X12_look.2.2.2⟩, ci_X12_look, ce_X12_look⟩
theorem lk_X12_140 : ax_sl RX12 140 mX12_isDigit 1 := ⟨⟨ax_in 1372 (by decide +kernel) rfl, cm_X12_isDigit.1, cm_X12_isDigit.2.1, cm_X12_isDigit.2.2.1, cm_X12_isDigit.2.2.2⟩, cs_X12_isDigit⟩
theorem lk_X12_144 : ax_vl RX12 144 mX12_plainNumber 0 := ⟨⟨ax_in 1432 (by decide +kernel) rfl, cm_X12_plainNumber.1, cm_X12_plainNumber.2.1, cm_X12_plainNumber.2.2.1, cm_X12_plainNumber.2.2.2⟩, ci_X12_plainNumber, ce_X12_plainNumber⟩
theorem lk_X12_147 : ax_vl RX12 147 mX12_put 2 := ⟨⟨ax_in 1412 (by decide +kernel) rfl, cm_X12_put.1, cm_X12_put.2.1, cm_X12_put.2.2.1, cm_X12_put.2.2.2⟩, ci_X12_put, ce_X12_put⟩
theorem lk_X12_151 : ax_sl RX12 151 mX12_letterOf 1 := ⟨⟨ax_in 1436 (by decide +kernel) rfl, cm_X12_letterOf.1, cm_X12_letterOf.2.1, cm_X12_letterOf.2.2.1, cm_X12_letterOf.2.2.2⟩, cs_X12_letterOf⟩
theorem lk_X12_155 : ax_vl RX12 155 mX12_opens 0 := ⟨⟨ax_in 1408 (by decide +kernel) rfl, cm_X12_opens.1, cm_X12_opens.2.1, cm_X12_opens.2.2.1, cm_X12_opens.2.2.2⟩, ci_X12_opens, ce_X12_opens⟩
theorem lk_X12_158 : ax_vl RX12 158 mX12_sum 0 := ⟨⟨ax_in 1420 (by decide +kernel) rfl, cm_X12_sum.1, cm_X12_sum.2.1, cm_X12_sum.2.2.1, cm_X12_sum.2.2.2⟩, ci_X12_sum, ce_X12_sum⟩
theorem lk_X12_161 : ax_vl RX12 161 mX12_closes 1 := ⟨⟨ax_in 1416 (by decide +kernel) rfl, cm_X12_closes.1, cm_X12_closes.2.1, cm_X12_closes.2.2.1, cm_X12_closes.2.2.2⟩, ci_X12_closes, ce_X12_closes⟩
theorem lk_X12_165 : ax_vl RX12 165 mX12_atom 0 := ⟨⟨ax_in 1428 (by decide +kernel) rfl, cm_X12_atom.1, cm_X12_atom.2.1, cm_X12_atom.2.2.1, cm_X12_atom.2.2.2⟩, ci_X12_atom, ce_X12_atom⟩
theorem lk_X12_168 : ax_vl RX12 168 mX12_term 0 := ⟨⟨ax_in 1424 (by decide +kernel) rfl, cm_X12_term.1, cm_X12_term.2.1, cm_X12_term.2.2.1, cm_X12_term.2.2.2⟩, ci_X12_term, ce_X12_term⟩
theorem lk_X12_171 : ax_sl RX12 171 mX12_isSign 1 := ⟨⟨ax_in 1443 (by decide +kernel) rfl, cm_X12_isSign.1, cm_X12_isSign.2.1, cm_X12_isSign.2.2.1, cm_X12_isSign.2.2.2⟩, cs_X12_isSign⟩
theorem lk_X12_174 : ax_vl RX12 174 mX12_unit 0 := ⟨⟨ax_in 1404 (by decide +kernel) rfl, cm_X12_unit.1, cm_X12_unit.2.1, cm_X12_unit.2.2.1, cm_X12_unit.2.2.2⟩, ci_X12_unit, ce_X12_unit⟩
theorem lk_X12_177 : ax_vl RX12 177 mX12_condition 0 := ⟨⟨ax_in 1400 (by decide +kernel) rfl, cm_X12_condition.1, cm_X12_condition.2.1, cm_X12_condition.2.2.1, cm_X12_condition.2.2.2⟩, ci_X12_condition, ce_X12_condition⟩
theorem lk_X12_180 : ax_vl RX12 180 mX12_compare 0 := ⟨⟨ax_in 1439 (by decide +kernel) rfl, cm_X12_compare.1, cm_X12_compare.2.1, cm_X12_compare.2.2.1, cm_X12_compare.2.2.2⟩, ci_X12_compare, ce_X12_compare⟩
theorem lk_X12_183 : ax_vl RX12 183 mX12_goOnAnd 0 := ⟨⟨ax_in 1446 (by decide +kernel) rfl, cm_X12_goOnAnd.1, cm_X12_goOnAnd.2.1, cm_X12_goOnAnd.2.2.1, cm_X12_goOnAnd.2.2.2⟩, ci_X12_goOnAnd, ce_X12_goOnAnd⟩
theorem lk_X12_186 : ax_vl RX12 186 mX12_goOnOr 0 := ⟨⟨ax_in 1450 (by decide +kernel) rfl, cm_X12_goOnOr.1, cm_X12_goOnOr.2.1, cm_X12_goOnOr.2.2.1, cm_X12_goOnOr.2.2.2⟩, ci_X12_goOnOr, ce_X12_goOnOr⟩
theorem lk_X12_189 : ax_vl RX12 189 mX12_open 1 := ⟨⟨ax_in 1392 (by decide +kernel) rfl, cm_X12_open.1, cm_X12_open.2.1, cm_X12_open.2.2.1, cm_X12_open.2.2.2⟩, ci_X12_open, ce_X12_open⟩
theorem lk_X12_192 : ax_vl RX12 192 mX12_clause 0 := ⟨⟨ax_in 1396 (by decide +kernel) rfl, cm_X12_clause.1, cm_X12_clause.2.1, cm_X12_clause.2.2.1, cm_X12_clause.2.2.2⟩, ci_X12_clause, ce_X12_clause⟩
theorem lk_X12_195 : ax_vl RX12 195 mX12_atEnd 0 := ⟨⟨ax_in 1454 (by decide +kernel) rfl, cm_X12_atEnd.1, cm_X12_atEnd.2.1, cm_X12_atEnd.2.2.1, cm_X12_atEnd.2.2.2⟩, ci_X12_atEnd, ce_X12_atEnd⟩
theorem mk_X12_202 : Cond.methodLink RX12 202 Lib.MathLoose.min_long.x ∈ ax_U := ax_in 1565 (by decide +kernel) rfl
theorem mk_X12_208 : Cond.methodLink RX12 208 Lib.MathLoose.max_long.x ∈ ax_U := ax_in 1568 (by decide +kernel) rfl
theorem lk_X12_211 : ax_sl RX12 211 mX12_bounded 1 := ⟨⟨ax_in 1560 (by decide +kernel) rfl, cm_X12_bounded.1, cm_X12_bounded.2.1, cm_X12_bounded.2.2.1, cm_X12_bounded.2.2.2⟩, cs_X12_bounded⟩
theorem lk_X12_215 : ax_sl RX12 215 mX12_worked 3 := ⟨⟨ax_in 1557 (by decide +kernel) rfl, cm_X12_worked.1, cm_X12_worked.2.1, cm_X12_worked.2.2.1, cm_X12_worked.2.2.2⟩, cs_X12_worked⟩
theorem lk_X12_219 : ax_vl RX12 219 mX12_workOut 3 := ⟨⟨ax_in 1553 (by decide +kernel) rfl, cm_X12_workOut.1, cm_X12_workOut.2.1, cm_X12_workOut.2.2.1, cm_X12_workOut.2.2.2⟩, ci_X12_workOut, ce_X12_workOut⟩
theorem lk_X12_223 : ax_sl RX12 223 mX12_in 3 := ⟨⟨ax_in 1379 (by decide +kernel) rfl, cm_X12_in.1, cm_X12_in.2.1, cm_X12_in.2.2.1, cm_X12_in.2.2.2⟩, cs_X12_in⟩
theorem lk_X12_227 : ax_sl RX12 227 mX12_usual 2 := ⟨⟨ax_in 1341 (by decide +kernel) rfl, cm_X12_usual.1, cm_X12_usual.2.1, cm_X12_usual.2.2.1, cm_X12_usual.2.2.2⟩, cs_X12_usual⟩
theorem lk_X12_231 : ax_sl RX12 231 mX12_itemOf 2 := ⟨⟨ax_in 1356 (by decide +kernel) rfl, cm_X12_itemOf.1, cm_X12_itemOf.2.1, cm_X12_itemOf.2.2.1, cm_X12_itemOf.2.2.2⟩, cs_X12_itemOf⟩
theorem lk_X12_234 : ax_sl RX12 234 mX12_has 2 := ⟨⟨ax_in 1359 (by decide +kernel) rfl, cm_X12_has.1, cm_X12_has.2.1, cm_X12_has.2.2.1, cm_X12_has.2.2.2⟩, cs_X12_has⟩
theorem lk_X12_238 : ax_sl RX12 238 mX12_lowest 2 := ⟨⟨ax_in 1362 (by decide +kernel) rfl, cm_X12_lowest.1, cm_X12_lowest.2.1, cm_X12_lowest.2.2.1, cm_X12_lowest.2.2.2⟩, cs_X12_lowest⟩
theorem lk_X12_241 : ax_sl RX12 241 mX12_highest 2 := ⟨⟨ax_in 1365 (by decide +kernel) rfl, cm_X12_highest.1, cm_X12_highest.2.1, cm_X12_highest.2.2.1, cm_X12_highest.2.2.2⟩, cs_X12_highest⟩
theorem lk_X12_244 : ax_vl RX12 244 mX12_number 2 := ⟨⟨ax_in 1368 (by decide +kernel) rfl, cm_X12_number.1, cm_X12_number.2.1, cm_X12_number.2.2.1, cm_X12_number.2.2.2⟩, ci_X12_number, ce_X12_number⟩
theorem mk_X12_253 : Cond.methodLink RX12 253 Lib.Math.min.name ∈ ax_U := ax_in 1386 (by decide +kernel) rfl
theorem mk_X12_255 : Cond.methodLink RX12 255 Lib.Math.max.name ∈ ax_U := ax_in 1387 (by decide +kernel) rfl
theorem lk_X12_257 : ax_vl RX12 257 mX12_items 4 := ⟨⟨ax_in 1352 (by decide +kernel) rfl, cm_X12_items.1, cm_X12_items.2.1, cm_X12_items.2.2.1, cm_X12_items.2.2.2⟩, ci_X12_items, ce_X12_items⟩
theorem lk_X12_261 : ax_vl RX12 261 mX12_isWhole 0 := ⟨⟨ax_in 1382 (by decide +kernel) rfl, cm_X12_isWhole.1, cm_X12_isWhole.2.1, cm_X12_isWhole.2.2.1, cm_X12_isWhole.2.2.2⟩, ci_X12_isWhole, ce_X12_isWhole⟩
theorem lk_X12_265 : ax_vl RX12 265 mX12_readBelt 0 := ⟨⟨ax_in 1337 (by decide +kernel) rfl, cm_X12_readBelt.1, cm_X12_readBelt.2.1, cm_X12_readBelt.2.2.1, cm_X12_readBelt.2.2.2⟩, ci_X12_readBelt, ce_X12_readBelt⟩
theorem lk_X12_268 : ax_vl RX12 268 mX12_readLaw 1 := ⟨⟨ax_in 1388 (by decide +kernel) rfl, cm_X12_readLaw.1, cm_X12_readLaw.2.1, cm_X12_readLaw.2.2.1, cm_X12_readLaw.2.2.2⟩, ci_X12_readLaw, ce_X12_readLaw⟩
theorem lk_X12_277 : ax_vl RX12 277 mX12_of 2 := ⟨⟨ax_in 1466 (by decide +kernel) rfl, cm_X12_of.1, cm_X12_of.2.1, cm_X12_of.2.2.1, cm_X12_of.2.2.2⟩, ci_X12_of, ce_X12_of⟩
theorem lk_X12_280 : ax_vl RX12 280 mX12_string 3 := ⟨⟨ax_in 1470 (by decide +kernel) rfl, cm_X12_string.1, cm_X12_string.2.1, cm_X12_string.2.2.1, cm_X12_string.2.2.2⟩, ci_X12_string, ce_X12_string⟩
theorem lk_X12_296 : ax_vl RX12 296 mX12_takeBelt 0 := ⟨⟨ax_in 1462 (by decide +kernel) rfl, cm_X12_takeBelt.1, cm_X12_takeBelt.2.1, cm_X12_takeBelt.2.2.1, cm_X12_takeBelt.2.2.2⟩, ci_X12_takeBelt, ce_X12_takeBelt⟩
theorem lk_X12_302 : ax_vl RX12 302 mX12_putWire 3 := ⟨⟨ax_in 1474 (by decide +kernel) rfl, cm_X12_putWire.1, cm_X12_putWire.2.1, cm_X12_putWire.2.2.1, cm_X12_putWire.2.2.2⟩, ci_X12_putWire, ce_X12_putWire⟩
theorem lk_X12_306 : ax_vl RX12 306 mX12_ofWire 2 := ⟨⟨ax_in 1494 (by decide +kernel) rfl, cm_X12_ofWire.1, cm_X12_ofWire.2.1, cm_X12_ofWire.2.2.1, cm_X12_ofWire.2.2.2⟩, ci_X12_ofWire, ce_X12_ofWire⟩
theorem mk_X12_309 : Cond.methodLink RX12 309 Lib.Math.abs.name ∈ ax_U := ax_in 1599 (by decide +kernel) rfl
theorem lk_X12_312 : ax_vl RX12 312 mX12_isLive 1 := ⟨⟨ax_in 1490 (by decide +kernel) rfl, cm_X12_isLive.1, cm_X12_isLive.2.1, cm_X12_isLive.2.2.1, cm_X12_isLive.2.2.2⟩, ci_X12_isLive, ce_X12_isLive⟩
theorem lk_X12_315 : ax_vl RX12 315 mX12_isAt 2 := ⟨⟨ax_in 1498 (by decide +kernel) rfl, cm_X12_isAt.1, cm_X12_isAt.2.1, cm_X12_isAt.2.2.1, cm_X12_isAt.2.2.2⟩, ci_X12_isAt, ce_X12_isAt⟩
theorem lk_X12_321 : ax_vl RX12 321 mX12_worthOf 1 := ⟨⟨ax_in 1549 (by decide +kernel) rfl, cm_X12_worthOf.1, cm_X12_worthOf.2.1, cm_X12_worthOf.2.2.1, cm_X12_worthOf.2.2.2⟩, ci_X12_worthOf, ce_X12_worthOf⟩
theorem lk_X12_327 : ax_vl RX12 327 mX12_sendPart 3 := ⟨⟨ax_in 1541 (by decide +kernel) rfl, cm_X12_sendPart.1, cm_X12_sendPart.2.1, cm_X12_sendPart.2.2.1, cm_X12_sendPart.2.2.2⟩, ci_X12_sendPart, ce_X12_sendPart⟩
theorem lk_X12_330 : ax_vl RX12 330 mX12_liveAt 2 := ⟨⟨ax_in 1486 (by decide +kernel) rfl, cm_X12_liveAt.1, cm_X12_liveAt.2.1, cm_X12_liveAt.2.2.1, cm_X12_liveAt.2.2.2⟩, ci_X12_liveAt, ce_X12_liveAt⟩
theorem lk_X12_333 : ax_vl RX12 333 mX12_keepsBy 3 := ⟨⟨ax_in 1545 (by decide +kernel) rfl, cm_X12_keepsBy.1, cm_X12_keepsBy.2.1, cm_X12_keepsBy.2.2.1, cm_X12_keepsBy.2.2.2⟩, ci_X12_keepsBy, ce_X12_keepsBy⟩
theorem lk_X12_336 : ax_vl RX12 336 mX12_goOver 3 := ⟨⟨ax_in 1571 (by decide +kernel) rfl, cm_X12_goOver.1, cm_X12_goOver.2.1, cm_X12_goOver.2.2.1, cm_X12_goOver.2.2.2⟩, ci_X12_goOver, ce_X12_goOver⟩
theorem lk_X12_339 : ax_vl RX12 339 mX12_layStroke 2 := ⟨⟨ax_in 1537 (by decide +kernel) rfl, cm_X12_layStroke.1, cm_X12_layStroke.2.1, cm_X12_layStroke.2.2.1, cm_X12_layStroke.2.2.2⟩, ci_X12_layStroke, ce_X12_layStroke⟩
theorem lk_X12_342 : ax_vl RX12 342 mX12_isHouse 1 := ⟨⟨ax_in 1482 (by decide +kernel) rfl, cm_X12_isHouse.1, cm_X12_isHouse.2.1, cm_X12_isHouse.2.2.1, cm_X12_isHouse.2.2.2⟩, ci_X12_isHouse, ce_X12_isHouse⟩
theorem lk_X12_345 : ax_vl RX12 345 mX12_isWire 1 := ⟨⟨ax_in 1506 (by decide +kernel) rfl, cm_X12_isWire.1, cm_X12_isWire.2.1, cm_X12_isWire.2.2.1, cm_X12_isWire.2.2.2⟩, ci_X12_isWire, ce_X12_isWire⟩
theorem lk_X12_348 : ax_vl RX12 348 mX12_burningBy 2 := ⟨⟨ax_in 1533 (by decide +kernel) rfl, cm_X12_burningBy.1, cm_X12_burningBy.2.1, cm_X12_burningBy.2.2.1, cm_X12_burningBy.2.2.2⟩, ci_X12_burningBy, ce_X12_burningBy⟩
theorem lk_X12_351 : ax_sl RX12 351 mX12_isForce 1 := ⟨⟨ax_in 1518 (by decide +kernel) rfl, cm_X12_isForce.1, cm_X12_isForce.2.1, cm_X12_isForce.2.2.1, cm_X12_isForce.2.2.2⟩, cs_X12_isForce⟩
theorem lk_X12_354 : ax_vl RX12 354 mX12_isRefused 1 := ⟨⟨ax_in 1521 (by decide +kernel) rfl, cm_X12_isRefused.1, cm_X12_isRefused.2.1, cm_X12_isRefused.2.2.1, cm_X12_isRefused.2.2.2⟩, ci_X12_isRefused, ce_X12_isRefused⟩
theorem lk_X12_357 : ax_vl RX12 357 mX12_keep 0 := ⟨⟨ax_in 1525 (by decide +kernel) rfl, cm_X12_keep.1, cm_X12_keep.2.1, cm_X12_keep.2.2.1, cm_X12_keep.2.2.2⟩, ci_X12_keep, ce_X12_keep⟩
theorem lk_X12_360 : ax_vl RX12 360 mX12_strikeNow 2 := ⟨⟨ax_in 1529 (by decide +kernel) rfl, cm_X12_strikeNow.1, cm_X12_strikeNow.2.1, cm_X12_strikeNow.2.2.1, cm_X12_strikeNow.2.2.2⟩, ci_X12_strikeNow, ce_X12_strikeNow⟩
theorem lk_X12_363 : ax_vl RX12 363 mX12_farOf 2 := ⟨⟨ax_in 1595 (by decide +kernel) rfl, cm_X12_farOf.1, cm_X12_farOf.2.1, cm_X12_farOf.2.2.1, cm_X12_farOf.2.2.2⟩, ci_X12_farOf, ce_X12_farOf⟩
theorem lk_X12_366 : ax_vl RX12 366 mX12_areTied 2 := ⟨⟨ax_in 1583 (by decide +kernel) rfl, cm_X12_areTied.1, cm_X12_areTied.2.1, cm_X12_areTied.2.2.1, cm_X12_areTied.2.2.2⟩, ci_X12_areTied, ce_X12_areTied⟩
theorem lk_X12_369 : ax_vl RX12 369 mX12_areChapels 2 := ⟨⟨ax_in 1587 (by decide +kernel) rfl, cm_X12_areChapels.1, cm_X12_areChapels.2.1, cm_X12_areChapels.2.2.1, cm_X12_areChapels.2.2.2⟩, ci_X12_areChapels, ce_X12_areChapels⟩
theorem lk_X12_372 : ax_vl RX12 372 mX12_priceOf 2 := ⟨⟨ax_in 1591 (by decide +kernel) rfl, cm_X12_priceOf.1, cm_X12_priceOf.2.1, cm_X12_priceOf.2.2.1, cm_X12_priceOf.2.2.2⟩, ci_X12_priceOf, ce_X12_priceOf⟩
theorem lk_X12_375 : ax_vl RX12 375 mX12_whyNot 2 := ⟨⟨ax_in 1579 (by decide +kernel) rfl, cm_X12_whyNot.1, cm_X12_whyNot.2.1, cm_X12_whyNot.2.2.1, cm_X12_whyNot.2.2.2⟩, ci_X12_whyNot, ce_X12_whyNot⟩
theorem lk_X12_378 : ax_vl RX12 378 mX12_areSummers 1 := ⟨⟨ax_in 1616 (by decide +kernel) rfl, cm_X12_areSummers.1, cm_X12_areSummers.2.1, cm_X12_areSummers.2.2.1, cm_X12_areSummers.2.2.2⟩, ci_X12_areSummers, ce_X12_areSummers⟩
theorem lk_X12_381 : ax_vl RX12 381 mX12_passSummer 0 := ⟨⟨ax_in 1620 (by decide +kernel) rfl, cm_X12_passSummer.1, cm_X12_passSummer.2.1, cm_X12_passSummer.2.2.1, cm_X12_passSummer.2.2.2⟩, ci_X12_passSummer, ce_X12_passSummer⟩
theorem lk_X12_395 : ax_vl RX12 395 mX12_heights 0 := ⟨⟨ax_in 1642 (by decide +kernel) rfl, cm_X12_heights.1, cm_X12_heights.2.1, cm_X12_heights.2.2.1, cm_X12_heights.2.2.2⟩, ci_X12_heights, ce_X12_heights⟩
theorem lk_X12_398 : ax_vl RX12 398 mX12_draw 1 := ⟨⟨ax_in 1632 (by decide +kernel) rfl, cm_X12_draw.1, cm_X12_draw.2.1, cm_X12_draw.2.2.1, cm_X12_draw.2.2.2⟩, ci_X12_draw, ce_X12_draw⟩
theorem lk_X12_401 : ax_vl RX12 401 mX12_drawStroke 0 := ⟨⟨ax_in 1638 (by decide +kernel) rfl, cm_X12_drawStroke.1, cm_X12_drawStroke.2.1, cm_X12_drawStroke.2.2.1, cm_X12_drawStroke.2.2.2⟩, ci_X12_drawStroke, ce_X12_drawStroke⟩
theorem lk_X12_404 : ax_vl RX12 404 mX12_keepsOf 3 := ⟨⟨ax_in 1662 (by decide +kernel) rfl, cm_X12_keepsOf.1, cm_X12_keepsOf.2.1, cm_X12_keepsOf.2.2.1, cm_X12_keepsOf.2.2.2⟩, ci_X12_keepsOf, ce_X12_keepsOf⟩
theorem lk_X12_413 : ax_vl RX12 413 mX12_tryCouples 3 := ⟨⟨ax_in 1678 (by decide +kernel) rfl, cm_X12_tryCouples.1, cm_X12_tryCouples.2.1, cm_X12_tryCouples.2.2.1, cm_X12_tryCouples.2.2.2⟩, ci_X12_tryCouples, ce_X12_tryCouples⟩
theorem lk_X12_417 : ax_sl RX12 417 mJ6_bitCount_0f7a4 1 := ⟨⟨ax_in 1690 (by decide +kernel) rfl, cm_J6_bitCount_0f7a4.1, cm_J6_bitCount_0f7a4.2.1, cm_J6_bitCount_0f7a4.2.2.1, cm_J6_bitCount_0f7a4.2.2.2⟩, cs_J6_bitCount_0f7a4⟩
theorem lk_X12_422 : ax_vl RX12 422 mX12_burnMany 2 := ⟨⟨ax_in 1686 (by decide +kernel) rfl, cm_X12_burnMany.1, cm_X12_burnMany.2.1, cm_X12_burnMany.2.2.1, cm_X12_burnMany.2.2.2⟩, ci_X12_burnMany, ce_X12_burnMany⟩
theorem lk_X12_425 : ax_vl RX12 425 mX12_uncut 0 := ⟨⟨ax_in 1695 (by decide +kernel) rfl, cm_X12_uncut.1, cm_X12_uncut.2.1, cm_X12_uncut.2.2.1, cm_X12_uncut.2.2.2⟩, ci_X12_uncut, ce_X12_uncut⟩
theorem lk_X12_428 : ax_vl RX12 428 mX12_cutSet 2 := ⟨⟨ax_in 1699 (by decide +kernel) rfl, cm_X12_cutSet.1, cm_X12_cutSet.2.1, cm_X12_cutSet.2.2.1, cm_X12_cutSet.2.2.2⟩, ci_X12_cutSet, ce_X12_cutSet⟩
theorem lk_X12_431 : ax_vl RX12 431 mX12_weakBy 1 := ⟨⟨ax_in 1711 (by decide +kernel) rfl, cm_X12_weakBy.1, cm_X12_weakBy.2.1, cm_X12_weakBy.2.2.1, cm_X12_weakBy.2.2.2⟩, ci_X12_weakBy, ce_X12_weakBy⟩
theorem lk_X12_434 : ax_vl RX12 434 mX12_standsOf 0 := ⟨⟨ax_in 1707 (by decide +kernel) rfl, cm_X12_standsOf.1, cm_X12_standsOf.2.1, cm_X12_standsOf.2.2.1, cm_X12_standsOf.2.2.2⟩, ci_X12_standsOf, ce_X12_standsOf⟩
theorem lk_X12_437 : ax_vl RX12 437 mX12_townBut 2 := ⟨⟨ax_in 1727 (by decide +kernel) rfl, cm_X12_townBut.1, cm_X12_townBut.2.1, cm_X12_townBut.2.2.1, cm_X12_townBut.2.2.2⟩, ci_X12_townBut, ce_X12_townBut⟩
theorem lk_X12_440 : ax_sl RX12 440 mJ6_numberOfTrailingZeros_0f7a4 1 := ⟨⟨ax_in 1735 (by decide +kernel) rfl, cm_J6_numberOfTrailingZeros_0f7a4.1, cm_J6_numberOfTrailingZeros_0f7a4.2.1, cm_J6_numberOfTrailingZeros_0f7a4.2.2.1, cm_J6_numberOfTrailingZeros_0f7a4.2.2.2⟩, cs_J6_numberOfTrailingZeros_0f7a4⟩
theorem lk_X12_443 : ax_vl RX12 443 mX12_allLive 0 := ⟨⟨ax_in 1739 (by decide +kernel) rfl, cm_X12_allLive.1, cm_X12_allLive.2.1, cm_X12_allLive.2.2.1, cm_X12_allLive.2.2.2⟩, ci_X12_allLive, ce_X12_allLive⟩
theorem lk_X12_446 : ax_vl RX12 446 mX12_mostKept 4 := ⟨⟨ax_in 1756 (by decide +kernel) rfl, cm_X12_mostKept.1, cm_X12_mostKept.2.1, cm_X12_mostKept.2.2.1, cm_X12_mostKept.2.2.2⟩, ci_X12_mostKept, ce_X12_mostKept⟩
theorem lk_X12_450 : ax_vl RX12 450 mX12_areTwo 2 := ⟨⟨ax_in 1747 (by decide +kernel) rfl, cm_X12_areTwo.1, cm_X12_areTwo.2.1, cm_X12_areTwo.2.2.1, cm_X12_areTwo.2.2.2⟩, ci_X12_areTwo, ce_X12_areTwo⟩
theorem lk_X12_454 : ax_vl RX12 454 mX12_gameOf 4 := ⟨⟨ax_in 1752 (by decide +kernel) rfl, cm_X12_gameOf.1, cm_X12_gameOf.2.1, cm_X12_gameOf.2.2.1, cm_X12_gameOf.2.2.2⟩, ci_X12_gameOf, ce_X12_gameOf⟩
theorem lk_X12_458 : ax_vl RX12 458 mX12_areCuts 1 := ⟨⟨ax_in 1776 (by decide +kernel) rfl, cm_X12_areCuts.1, cm_X12_areCuts.2.1, cm_X12_areCuts.2.2.1, cm_X12_areCuts.2.2.2⟩, ci_X12_areCuts, ce_X12_areCuts⟩
theorem lk_X12_461 : ax_vl RX12 461 mX12_isSo 2 := ⟨⟨ax_in 1780 (by decide +kernel) rfl, cm_X12_isSo.1, cm_X12_isSo.2.1, cm_X12_isSo.2.2.1, cm_X12_isSo.2.2.2⟩, ci_X12_isSo, ce_X12_isSo⟩
theorem lk_X12_466 : ax_vl RX12 466 mX12_oddsOf 2 := ⟨⟨ax_in 1796 (by decide +kernel) rfl, cm_X12_oddsOf.1, cm_X12_oddsOf.2.1, cm_X12_oddsOf.2.2.1, cm_X12_oddsOf.2.2.2⟩, ci_X12_oddsOf, ce_X12_oddsOf⟩
theorem mk_X2_22 : Cond.methodLink RX2 22 Lib.Math.min.name ∈ ax_U := ax_in 618 (by decide +kernel) rfl
theorem lk_X2_28 : ax_vl RX2 28 mX2_length 0 := ⟨⟨ax_in 614 (by decide +kernel) rfl, cm_X2_length.1, cm_X2_length.2.1, cm_X2_length.2.2.1, cm_X2_length.2.2.2⟩, ci_X2_length, ce_X2_length⟩
theorem lk_X2_35 : ax_vl RX2 35 mX2_tells 2 := ⟨⟨ax_in 837 (by decide +kernel) rfl, cm_X2_tells.1, cm_X2_tells.2.1, cm_X2_tells.2.2.1, cm_X2_tells.2.2.2⟩, ci_X2_tells, ce_X2_tells⟩
theorem lk_X2_38 : ax_vl RX2 38 mX2_clear 0 := ⟨⟨ax_in 847 (by decide +kernel) rfl, cm_X2_clear.1, cm_X2_clear.2.1, cm_X2_clear.2.2.1, cm_X2_clear.2.2.2⟩, ci_X2_clear, ce_X2_clear⟩
theorem lk_X2_41 : ax_vl RX2 41 mX2_add 3 := ⟨⟨ax_in 848 (by decide +kernel) rfl, cm_X2_add.1, cm_X2_add.2.1, cm_X2_add.2.2.1, cm_X2_add.2.2.2⟩, ci_X2_add, ce_X2_add⟩
theorem lk_X4_31 : ax_vl RX4 31 mX4_pairFrom 4 := ⟨⟨ax_in 932 (by decide +kernel) rfl, cm_X4_pairFrom.1, cm_X4_pairFrom.2.1, cm_X4_pairFrom.2.2.1, cm_X4_pairFrom.2.2.2⟩, ci_X4_pairFrom, ce_X4_pairFrom⟩
theorem lk_X4_35 : ax_vl RX4 35 mX4_keepLeast 1 := ⟨⟨ax_in 936 (by decide +kernel) rfl, cm_X4_keepLeast.1, cm_X4_keepLeast.2.1, cm_X4_keepLeast.2.2.1, cm_X4_keepLeast.2.2.2⟩, ci_X4_keepLeast, ce_X4_keepLeast⟩
theorem lk_X4_39 : ax_nlk RX4 39 mX11_bitOf 2 := ⟨by decide +kernel, cm_X11_bitOf.1, cm_X11_bitOf.2.1, cm_X11_bitOf.2.2.1, cm_X11_bitOf.2.2.2, cs_X11_bitOf⟩
theorem lk_X4_46 : ax_vl RX4 46 mX0_apart 2 := ⟨⟨ax_in 941 (by decide +kernel) rfl, cm_X0_apart.1, cm_X0_apart.2.1, cm_X0_apart.2.2.1, cm_X0_apart.2.2.2⟩, ci_X0_apart, ce_X0_apart⟩
theorem lk_X5_22 : ax_vl RX5 22 mX0_write 2 := ⟨⟨ax_in 650 (by decide +kernel) rfl, cm_X0_write.1, cm_X0_write.2.1, cm_X0_write.2.2.1, cm_X0_write.2.2.2⟩, ci_X0_write, ce_X0_write⟩
theorem mk_X5_26 : Cond.methodLink RX5 26 Lib.Math.min.name ∈ ax_U := ax_in 655 (by decide +kernel) rfl
theorem lk_X5_32 : ax_vl RX5 32 mX0_read 2 := ⟨⟨ax_in 824 (by decide +kernel) rfl, cm_X0_read.1, cm_X0_read.2.1, cm_X0_read.2.2.1, cm_X0_read.2.2.2⟩, ci_X0_read, ce_X0_read⟩
theorem lk_X6_28 : ax_vl RX6 28 mX6_readsClause 0 := ⟨⟨ax_in 506 (by decide +kernel) rfl, cm_X6_readsClause.1, cm_X6_readsClause.2.1, cm_X6_readsClause.2.2.1, cm_X6_readsClause.2.2.2⟩, ci_X6_readsClause, ce_X6_readsClause⟩
theorem lk_X6_32 : ax_vl RX6 32 mX9_takes 1 := ⟨⟨ax_in 510 (by decide +kernel) rfl, cm_X9_takes.1, cm_X9_takes.2.1, cm_X9_takes.2.2.1, cm_X9_takes.2.2.2⟩, ci_X9_takes, ce_X9_takes⟩
theorem lk_X6_36 : ax_vl RX6 36 mX9_sign 0 := ⟨⟨ax_in 511 (by decide +kernel) rfl, cm_X9_sign.1, cm_X9_sign.2.1, cm_X9_sign.2.2.1, cm_X9_sign.2.2.2⟩, ci_X9_sign, ce_X9_sign⟩
theorem lk_X6_40 : ax_vl RX6 40 mX6_readsSum 1 := ⟨⟨ax_in 512 (by decide +kernel) rfl, cm_X6_readsSum.1, cm_X6_readsSum.2.1, cm_X6_readsSum.2.2.1, cm_X6_readsSum.2.2.2⟩, ci_X6_readsSum, ce_X6_readsSum⟩
theorem lk_X6_43 : ax_vl RX6 43 mX6_comparison 0 := ⟨⟨ax_in 531 (by decide +kernel) rfl, cm_X6_comparison.1, cm_X6_comparison.2.1, cm_X6_comparison.2.2.1, cm_X6_comparison.2.2.2⟩, ci_X6_comparison, ce_X6_comparison⟩
theorem lk_X6_46 : ax_vl RX6 46 mX6_put 2 := ⟨⟨ax_in 526 (by decide +kernel) rfl, cm_X6_put.1, cm_X6_put.2.1, cm_X6_put.2.2.1, cm_X6_put.2.2.2⟩, ci_X6_put, ce_X6_put⟩
theorem lk_X6_50 : ax_vl RX6 50 mX6_readsCondition 2 := ⟨⟨ax_in 535 (by decide +kernel) rfl, cm_X6_readsCondition.1, cm_X6_readsCondition.2.1, cm_X6_readsCondition.2.2.1, cm_X6_readsCondition.2.2.2⟩, ci_X6_readsCondition, ce_X6_readsCondition⟩
theorem lk_X6_54 : ax_vl RX6 54 mX6_readsTruth 2 := ⟨⟨ax_in 539 (by decide +kernel) rfl, cm_X6_readsTruth.1, cm_X6_readsTruth.2.1, cm_X6_readsTruth.2.2.1, cm_X6_readsTruth.2.2.2⟩, ci_X6_readsTruth, ce_X6_readsTruth⟩
theorem lk_X6_57 : ax_vl RX6 57 mX6_readsUnit 2 := ⟨⟨ax_in 543 (by decide +kernel) rfl, cm_X6_readsUnit.1, cm_X6_readsUnit.2.1, cm_X6_readsUnit.2.2.1, cm_X6_readsUnit.2.2.2⟩, ci_X6_readsUnit, ce_X6_readsUnit⟩
theorem lk_X6_60 : ax_vl RX6 60 mX6_readsNested 2 := ⟨⟨ax_in 547 (by decide +kernel) rfl, cm_X6_readsNested.1, cm_X6_readsNested.2.1, cm_X6_readsNested.2.2.1, cm_X6_readsNested.2.2.2⟩, ci_X6_readsNested, ce_X6_readsNested⟩
theorem lk_X6_64 : ax_vl RX6 64 mX6_readsTerm 1 := ⟨⟨ax_in 516 (by decide +kernel) rfl, cm_X6_readsTerm.1, cm_X6_readsTerm.2.1, cm_X6_readsTerm.2.2.1, cm_X6_readsTerm.2.2.2⟩, ci_X6_readsTerm, ce_X6_readsTerm⟩
theorem lk_X6_67 : ax_vl RX6 67 mX6_readsAtom 1 := ⟨⟨ax_in 520 (by decide +kernel) rfl, cm_X6_readsAtom.1, cm_X6_readsAtom.2.1, cm_X6_readsAtom.2.2.1, cm_X6_readsAtom.2.2.2⟩, ci_X6_readsAtom, ce_X6_readsAtom⟩
theorem lk_X6_74 : ax_vl RX6 74 mX9_takesNumber 1 := ⟨⟨ax_in 530 (by decide +kernel) rfl, cm_X9_takesNumber.1, cm_X9_takesNumber.2.1, cm_X9_takesNumber.2.2.1, cm_X9_takesNumber.2.2.2⟩, ci_X9_takesNumber, ce_X9_takesNumber⟩
theorem mk_X7_37 : Cond.methodLink RX7 37 arraycopyName ∈ ax_U := ax_in 559 (by decide +kernel) rfl
theorem lk_X7_46 : ax_vl RX7 46 mX7_pop 0 := ⟨⟨ax_in 692 (by decide +kernel) rfl, cm_X7_pop.1, cm_X7_pop.2.1, cm_X7_pop.2.2.1, cm_X7_pop.2.2.2⟩, ci_X7_pop, ce_X7_pop⟩
theorem lk_X7_50 : ax_vl RX7 50 mX7_push 1 := ⟨⟨ax_in 696 (by decide +kernel) rfl, cm_X7_push.1, cm_X7_push.2.1, cm_X7_push.2.2.1, cm_X7_push.2.2.2⟩, ci_X7_push, ce_X7_push⟩
theorem lk_X7_54 : ax_sl RX7 54 mX7_join 3 := ⟨⟨ax_in 700 (by decide +kernel) rfl, cm_X7_join.1, cm_X7_join.2.1, cm_X7_join.2.2.1, cm_X7_join.2.2.2⟩, cs_X7_join⟩
theorem lk_X8_32 : ax_sl RX8 32 mJ7_fill_53178 2 := ⟨⟨ax_in 664 (by decide +kernel) rfl, cm_J7_fill_53178.1, cm_J7_fill_53178.2.1, cm_J7_fill_53178.2.2.1, cm_J7_fill_53178.2.2.2⟩, cs_J7_fill_53178⟩
theorem lk_X8_48 : ax_vl RX8 48 mX8_send 3 := ⟨⟨ax_in 665 (by decide +kernel) rfl, cm_X8_send.1, cm_X8_send.2.1, cm_X8_send.2.2.1, cm_X8_send.2.2.2⟩, ci_X8_send, ce_X8_send⟩
theorem lk_X8_52 : ax_vl RX8 52 mX8_arrive 4 := ⟨⟨ax_in 669 (by decide +kernel) rfl, cm_X8_arrive.1, cm_X8_arrive.2.1, cm_X8_arrive.2.2.1, cm_X8_arrive.2.2.2⟩, ci_X8_arrive, ce_X8_arrive⟩
theorem lk_X8_56 : ax_vl RX8 56 mX8_burningBits 0 := ⟨⟨ax_in 715 (by decide +kernel) rfl, cm_X8_burningBits.1, cm_X8_burningBits.2.1, cm_X8_burningBits.2.2.1, cm_X8_burningBits.2.2.2⟩, ci_X8_burningBits, ce_X8_burningBits⟩
theorem lk_X8_60 : ax_nlk RX8 60 mX11_bitOf 2 := ⟨by decide +kernel, cm_X11_bitOf.1, cm_X11_bitOf.2.1, cm_X11_bitOf.2.2.1, cm_X11_bitOf.2.2.2, cs_X11_bitOf⟩
theorem lk_X8_64 : ax_vl RX8 64 mX0_touching 2 := ⟨⟨ax_in 674 (by decide +kernel) rfl, cm_X0_touching.1, cm_X0_touching.2.1, cm_X0_touching.2.2.1, cm_X0_touching.2.2.2⟩, ci_X0_touching, ce_X0_touching⟩
theorem lk_X8_69 : ax_sl RX8 69 mJ6_bitCount_0f7a4 1 := ⟨⟨ax_in 678 (by decide +kernel) rfl, cm_J6_bitCount_0f7a4.1, cm_J6_bitCount_0f7a4.2.1, cm_J6_bitCount_0f7a4.2.2.1, cm_J6_bitCount_0f7a4.2.2.2⟩, cs_J6_bitCount_0f7a4⟩
theorem lk_X8_92 : ax_vl RX8 92 mX7_tell 6 := ⟨⟨ax_in 684 (by decide +kernel) rfl, cm_X7_tell.1, cm_X7_tell.2.1, cm_X7_tell.2.2.1, cm_X7_tell.2.2.2⟩, ci_X7_tell, ce_X7_tell⟩
theorem lk_X8_96 : ax_vl RX8 96 mX7_worth 0 := ⟨⟨ax_in 688 (by decide +kernel) rfl, cm_X7_worth.1, cm_X7_worth.2.1, cm_X7_worth.2.2.1, cm_X7_worth.2.2.2⟩, ci_X7_worth, ce_X7_worth⟩
theorem mk_X8_99 : Cond.methodLink RX8 99 Lib.Math.min.name ∈ ax_U := ax_in 707 (by decide +kernel) rfl
theorem mk_X8_104 : Cond.methodLink RX8 104 Lib.Math.max.name ∈ ax_U := ax_in 708 (by decide +kernel) rfl
theorem lk_X8_107 : ax_vl RX8 107 mX8_pass 3 := ⟨⟨ax_in 711 (by decide +kernel) rfl, cm_X8_pass.1, cm_X8_pass.2.1, cm_X8_pass.2.2.1, cm_X8_pass.2.2.2⟩, ci_X8_pass, ce_X8_pass⟩
theorem lk_X9_22 : ax_vl RX9 22 mX9_sign 0 := ⟨⟨ax_in 477 (by decide +kernel) rfl, cm_X9_sign.1, cm_X9_sign.2.1, cm_X9_sign.2.2.1, cm_X9_sign.2.2.2⟩, ci_X9_sign, ce_X9_sign⟩
theorem lk_X9_26 : ax_vl RX9 26 mX9_atDigit 0 := ⟨⟨ax_in 478 (by decide +kernel) rfl, cm_X9_atDigit.1, cm_X9_atDigit.2.1, cm_X9_atDigit.2.2.1, cm_X9_atDigit.2.2.2⟩, ci_X9_atDigit, ce_X9_atDigit⟩
theorem fl_X0_9 : Cond.fieldLink RX0 9 "CopperTies$Belt" "place" "[I" ∈ ax_U := ax_in 144 (by decide +kernel) rfl
theorem fl_X0_15 : Cond.fieldLink RX0 15 "CopperTies$Belt" "height" "[I" ∈ ax_U := ax_in 146 (by decide +kernel) rfl
theorem fl_X0_18 : Cond.fieldLink RX0 18 "CopperTies$Belt" "bears" "[I" ∈ ax_U := ax_in 149 (by decide +kernel) rfl
theorem fl_X0_21 : Cond.fieldLink RX0 21 "CopperTies$Belt" "kind" "[I" ∈ ax_U := ax_in 152 (by decide +kernel) rfl
theorem fl_X0_24 : Cond.fieldLink RX0 24 "CopperTies$Belt" "burnt" "[I" ∈ ax_U := ax_in 156 (by decide +kernel) rfl
theorem fl_X0_27 : Cond.fieldLink RX0 27 "CopperTies$Belt" "from" "[I" ∈ ax_U := ax_in 158 (by decide +kernel) rfl
theorem fl_X0_30 : Cond.fieldLink RX0 30 "CopperTies$Belt" "to" "[I" ∈ ax_U := ax_in 161 (by decide +kernel) rfl
theorem fl_X0_33 : Cond.fieldLink RX0 33 "CopperTies$Belt" "salt" "[I" ∈ ax_U := ax_in 164 (by decide +kernel) rfl
theorem fl_X0_36 : Cond.fieldLink RX0 36 "CopperTies$Belt" "touches" "[I" ∈ ax_U := ax_in 167 (by decide +kernel) rfl
theorem fl_X0_39 : Cond.fieldLink RX0 39 "CopperTies$BeltReader" "houses" "I" ∈ ax_U := ax_in 70 (by decide +kernel) rfl
theorem fl_X0_45 : Cond.fieldLink RX0 45 "CopperTies$Belt" "houses" "I" ∈ ax_U := ax_in 168 (by decide +kernel) rfl
theorem fl_X0_46 : Cond.fieldLink RX0 46 "CopperTies$BeltReader" "wires" "I" ∈ ax_U := ax_in 72 (by decide +kernel) rfl
theorem fl_X0_49 : Cond.fieldLink RX0 49 "CopperTies$Belt" "wires" "I" ∈ ax_U := ax_in 172 (by decide +kernel) rfl
theorem fl_X0_50 : Cond.fieldLink RX0 50 "CopperTies$Belt" "cutBits" "I" ∈ ax_U := ax_in 175 (by decide +kernel) rfl
theorem fl_X0_53 : Cond.fieldLink RX0 53 "CopperTies$BeltReader" "rulesTold" "[I" ∈ ax_U := ax_in 64 (by decide +kernel) rfl
theorem fl_X0_56 : Cond.fieldLink RX0 56 "CopperTies$Belt" "copper" "I" ∈ ax_U := ax_in 177 (by decide +kernel) rfl
theorem fl_X0_59 : Cond.fieldLink RX0 59 "CopperTies$Belt" "dry" "I" ∈ ax_U := ax_in 179 (by decide +kernel) rfl
theorem fl_X0_62 : Cond.fieldLink RX0 62 "CopperTies$Belt" "summer" "I" ∈ ax_U := ax_in 182 (by decide +kernel) rfl
theorem fl_X0_65 : Cond.fieldLink RX0 65 "CopperTies$BeltReader" "housesTold" "[I" ∈ ax_U := ax_in 66 (by decide +kernel) rfl
theorem fl_X0_68 : Cond.fieldLink RX0 68 "CopperTies$BeltReader" "wiresTold" "[I" ∈ ax_U := ax_in 68 (by decide +kernel) rfl
theorem fl_X1_11 : Cond.fieldLink RX1 11 "CopperTies$BeltReader" "rulesTold" "[I" ∈ ax_U := ax_in 63 (by decide +kernel) rfl
theorem fl_X1_15 : Cond.fieldLink RX1 15 "CopperTies$BeltReader" "housesTold" "[I" ∈ ax_U := ax_in 65 (by decide +kernel) rfl
theorem fl_X1_18 : Cond.fieldLink RX1 18 "CopperTies$BeltReader" "wiresTold" "[I" ∈ ax_U := ax_in 67 (by decide +kernel) rfl
theorem fl_X1_21 : Cond.fieldLink RX1 21 "CopperTies$BeltReader" "tape" "LCopperTies$Tape;" ∈ ax_U := ax_in 62 (by decide +kernel) rfl
theorem fl_X1_25 : Cond.fieldLink RX1 25 "CopperTies$Tape" "at" "I" ∈ ax_U := ax_in 39 (by decide +kernel) rfl
theorem fl_X1_31 : Cond.fieldLink RX1 31 "CopperTies$BeltReader" "ruled" "Z" ∈ ax_U := ax_in 69 (by decide +kernel) rfl
theorem fl_X1_35 : Cond.fieldLink RX1 35 "CopperTies$BeltReader" "houses" "I" ∈ ax_U := ax_in 71 (by decide +kernel) rfl
theorem fl_X1_38 : Cond.fieldLink RX1 38 "CopperTies$BeltReader" "wires" "I" ∈ ax_U := ax_in 73 (by decide +kernel) rfl
theorem fl_X1_64 : Cond.fieldLink RX1 64 "CopperTies$BeltReader" "LETTERS" "[C" ∈ ax_U := ax_in 464 (by decide +kernel) rfl
theorem fl_X1_68 : Cond.fieldLink RX1 68 "CopperTies$BeltReader" "WITHOUT" "[I" ∈ ax_U := ax_in 446 (by decide +kernel) rfl
theorem fl_X1_81 : Cond.fieldLink RX1 81 "CopperTies$Tape" "number" "I" ∈ ax_U := ax_in 44 (by decide +kernel) rfl
theorem fl_X1_87 : Cond.fieldLink RX1 87 "CopperTies$BeltReader" "LOWEST" "[I" ∈ ax_U := ax_in 482 (by decide +kernel) rfl
theorem fl_X1_90 : Cond.fieldLink RX1 90 "CopperTies$BeltReader" "HIGHEST" "[I" ∈ ax_U := ax_in 484 (by decide +kernel) rfl
theorem fl_X10_11 : Cond.fieldLink RX10 11 "CopperTies$WireSets" "row" "[I" ∈ ax_U := ax_in 342 (by decide +kernel) rfl
theorem fl_X10_15 : Cond.fieldLink RX10 15 "CopperTies$WireSets" "size" "I" ∈ ax_U := ax_in 344 (by decide +kernel) rfl
theorem fl_X11_10 : Cond.fieldLink RX11 10 "CopperTies" "tape" "LCopperTies$Tape;" ∈ ax_U := ax_in 351 (by decide +kernel) rfl
theorem fl_X11_21 : Cond.fieldLink RX11 21 "CopperTies" "beltReader" "LCopperTies$BeltReader;" ∈ ax_U := ax_in 352 (by decide +kernel) rfl
theorem fl_X11_28 : Cond.fieldLink RX11 28 "CopperTies" "lawReader" "LCopperTies$LawReader;" ∈ ax_U := ax_in 353 (by decide +kernel) rfl
theorem fl_X11_35 : Cond.fieldLink RX11 35 "CopperTies" "laws" "LCopperTies$Laws;" ∈ ax_U := ax_in 354 (by decide +kernel) rfl
theorem fl_X11_42 : Cond.fieldLink RX11 42 "CopperTies" "belt" "LCopperTies$Belt;" ∈ ax_U := ax_in 355 (by decide +kernel) rfl
theorem fl_X11_51 : Cond.fieldLink RX11 51 "CopperTies" "storm" "LCopperTies$Storm;" ∈ ax_U := ax_in 356 (by decide +kernel) rfl
theorem fl_X11_58 : Cond.fieldLink RX11 58 "CopperTies" "history" "LCopperTies$History;" ∈ ax_U := ax_in 357 (by decide +kernel) rfl
theorem fl_X11_65 : Cond.fieldLink RX11 65 "CopperTies" "chronicle" "LCopperTies$Chronicle;" ∈ ax_U := ax_in 358 (by decide +kernel) rfl
theorem fl_X11_72 : Cond.fieldLink RX11 72 "CopperTies" "clues" "LCopperTies$Clues;" ∈ ax_U := ax_in 359 (by decide +kernel) rfl
theorem fl_X11_81 : Cond.fieldLink RX11 81 "CopperTies" "pairing" "LCopperTies$Couples;" ∈ ax_U := ax_in 360 (by decide +kernel) rfl
theorem fl_X11_88 : Cond.fieldLink RX11 88 "CopperTies" "sets" "LCopperTies$WireSets;" ∈ ax_U := ax_in 361 (by decide +kernel) rfl
theorem fl_X11_92 : Cond.fieldLink RX11 92 "CopperTies" "picture" "[I" ∈ ax_U := ax_in 362 (by decide +kernel) rfl
theorem fl_X11_96 : Cond.fieldLink RX11 96 "CopperTies" "refusals" "[I" ∈ ax_U := ax_in 363 (by decide +kernel) rfl
theorem fl_X11_99 : Cond.fieldLink RX11 99 "CopperTies" "storms" "I" ∈ ax_U := ax_in 365 (by decide +kernel) rfl
theorem fl_X11_103 : Cond.fieldLink RX11 103 "CopperTies" "strokeWays" "J" ∈ ax_U := ax_in 368 (by decide +kernel) rfl
theorem fl_X11_107 : Cond.fieldLink RX11 107 "CopperTies" "sparkWays" "J" ∈ ax_U := ax_in 369 (by decide +kernel) rfl
theorem fl_X11_114 : Cond.fieldLink RX11 114 "CopperTies$Tape" "length" "I" ∈ ax_U := ax_in 38 (by decide +kernel) rfl
theorem fl_X11_128 : Cond.fieldLink RX11 128 "CopperTies$Tape" "at" "I" ∈ ax_U := ax_in 42 (by decide +kernel) rfl
theorem fl_X11_131 : Cond.fieldLink RX11 131 "CopperTies$Laws" "told" "I" ∈ ax_U := ax_in 118 (by decide +kernel) rfl
theorem fl_X11_146 : Cond.fieldLink RX11 146 "CopperTies$Clues" "told" "I" ∈ ax_U := ax_in 303 (by decide +kernel) rfl
theorem fl_X11_147 : Cond.fieldLink RX11 147 "CopperTies" "pictured" "Z" ∈ ax_U := ax_in 364 (by decide +kernel) rfl
theorem fl_X11_151 : Cond.fieldLink RX11 151 "CopperTies" "tests" "I" ∈ ax_U := ax_in 367 (by decide +kernel) rfl
theorem fl_X11_154 : Cond.fieldLink RX11 154 "CopperTies$Belt" "houses" "I" ∈ ax_U := ax_in 170 (by decide +kernel) rfl
theorem fl_X11_157 : Cond.fieldLink RX11 157 "CopperTies$Laws" "holding" "I" ∈ ax_U := ax_in 121 (by decide +kernel) rfl
theorem fl_X11_170 : Cond.fieldLink RX11 170 "CopperTies$Belt" "place" "[I" ∈ ax_U := ax_in 145 (by decide +kernel) rfl
theorem fl_X11_173 : Cond.fieldLink RX11 173 "CopperTies$Belt" "height" "[I" ∈ ax_U := ax_in 148 (by decide +kernel) rfl
theorem fl_X11_176 : Cond.fieldLink RX11 176 "CopperTies$Belt" "bears" "[I" ∈ ax_U := ax_in 151 (by decide +kernel) rfl
theorem fl_X11_179 : Cond.fieldLink RX11 179 "CopperTies$Belt" "kind" "[I" ∈ ax_U := ax_in 155 (by decide +kernel) rfl
theorem fl_X11_182 : Cond.fieldLink RX11 182 "CopperTies$Belt" "burnt" "[I" ∈ ax_U := ax_in 157 (by decide +kernel) rfl
theorem fl_X11_203 : Cond.fieldLink RX11 203 "CopperTies$Belt" "from" "[I" ∈ ax_U := ax_in 160 (by decide +kernel) rfl
theorem fl_X11_206 : Cond.fieldLink RX11 206 "CopperTies$Belt" "to" "[I" ∈ ax_U := ax_in 163 (by decide +kernel) rfl
theorem fl_X11_209 : Cond.fieldLink RX11 209 "CopperTies$Belt" "salt" "[I" ∈ ax_U := ax_in 166 (by decide +kernel) rfl
theorem fl_X11_212 : Cond.fieldLink RX11 212 "CopperTies$Belt" "cutBits" "I" ∈ ax_U := ax_in 176 (by decide +kernel) rfl
theorem fl_X11_221 : Cond.fieldLink RX11 221 "CopperTies$Belt" "wires" "I" ∈ ax_U := ax_in 174 (by decide +kernel) rfl
theorem fl_X11_224 : Cond.fieldLink RX11 224 "CopperTies$Belt" "summer" "I" ∈ ax_U := ax_in 183 (by decide +kernel) rfl
theorem fl_X11_227 : Cond.fieldLink RX11 227 "CopperTies$Belt" "copper" "I" ∈ ax_U := ax_in 178 (by decide +kernel) rfl
theorem fl_X11_230 : Cond.fieldLink RX11 230 "CopperTies$Belt" "dry" "I" ∈ ax_U := ax_in 181 (by decide +kernel) rfl
theorem fl_X11_233 : Cond.fieldLink RX11 233 "CopperTies" "kites" "I" ∈ ax_U := ax_in 366 (by decide +kernel) rfl
theorem fl_X11_238 : Cond.fieldLink RX11 238 "CopperTies$History" "acts" "I" ∈ ax_U := ax_in 259 (by decide +kernel) rfl
theorem fl_X11_284 : Cond.fieldLink RX11 284 "CopperTies" "chance" "J" ∈ ax_U := ax_in 370 (by decide +kernel) rfl
theorem fl_X11_297 : Cond.fieldLink RX11 297 "CopperTies$Chronicle" "told" "I" ∈ ax_U := ax_in 277 (by decide +kernel) rfl
theorem fl_X11_315 : Cond.fieldLink RX11 315 "CopperTies$Storm" "kept" "[I" ∈ ax_U := ax_in 224 (by decide +kernel) rfl
theorem fl_X11_318 : Cond.fieldLink RX11 318 "CopperTies$Storm" "saltTook" "I" ∈ ax_U := ax_in 231 (by decide +kernel) rfl
theorem fl_X11_333 : Cond.fieldLink RX11 333 "CopperTies$WireSets" "size" "I" ∈ ax_U := ax_in 345 (by decide +kernel) rfl
theorem fl_X11_336 : Cond.fieldLink RX11 336 "CopperTies$WireSets" "row" "[I" ∈ ax_U := ax_in 343 (by decide +kernel) rfl
theorem fl_X11_363 : Cond.fieldLink RX11 363 "CopperTies$Couples" "leastSum" "I" ∈ ax_U := ax_in 324 (by decide +kernel) rfl
theorem fl_X11_366 : Cond.fieldLink RX11 366 "CopperTies$Couples" "leastRow" "I" ∈ ax_U := ax_in 326 (by decide +kernel) rfl
theorem fl_X11_423 : Cond.fieldLink RX11 423 "CopperTies" "SO_BY_STROKE" "[I" ∈ ax_U := ax_in 1067 (by decide +kernel) rfl
theorem fl_X11_426 : Cond.fieldLink RX11 426 "CopperTies" "SO_BY_SPARK" "[I" ∈ ax_U := ax_in 1069 (by decide +kernel) rfl
theorem fl_X11_460 : Cond.fieldLink RX11 460 "CopperTies$Clues" "struck" "[I" ∈ ax_U := ax_in 295 (by decide +kernel) rfl
theorem fl_X11_463 : Cond.fieldLink RX11 463 "CopperTies$Clues" "strength" "[I" ∈ ax_U := ax_in 297 (by decide +kernel) rfl
theorem fl_X11_466 : Cond.fieldLink RX11 466 "CopperTies$Clues" "seen" "[I" ∈ ax_U := ax_in 299 (by decide +kernel) rfl
theorem fl_X11_469 : Cond.fieldLink RX11 469 "CopperTies$Clues" "burnt" "[I" ∈ ax_U := ax_in 301 (by decide +kernel) rfl
theorem fl_X12_9 : Cond.fieldLink RX12 9 "CopperTiesModel" "tape" "[I" ∈ ax_U := ax_in 1158 (by decide +kernel) rfl
theorem fl_X12_13 : Cond.fieldLink RX12 13 "CopperTiesModel" "code" "[I" ∈ ax_U := ax_in 1163 (by decide +kernel) rfl
theorem fl_X12_16 : Cond.fieldLink RX12 16 "CopperTiesModel" "value" "[I" ∈ ax_U := ax_in 1164 (by decide +kernel) rfl
theorem fl_X12_19 : Cond.fieldLink RX12 19 "CopperTiesModel" "codes" "[I" ∈ ax_U := ax_in 1165 (by decide +kernel) rfl
theorem fl_X12_22 : Cond.fieldLink RX12 22 "CopperTiesModel" "clauses" "[I" ∈ ax_U := ax_in 1166 (by decide +kernel) rfl
theorem fl_X12_25 : Cond.fieldLink RX12 25 "CopperTiesModel" "testFrom" "[I" ∈ ax_U := ax_in 1167 (by decide +kernel) rfl
theorem fl_X12_28 : Cond.fieldLink RX12 28 "CopperTiesModel" "sumFrom" "[I" ∈ ax_U := ax_in 1168 (by decide +kernel) rfl
theorem fl_X12_31 : Cond.fieldLink RX12 31 "CopperTiesModel" "sumTo" "[I" ∈ ax_U := ax_in 1169 (by decide +kernel) rfl
theorem fl_X12_34 : Cond.fieldLink RX12 34 "CopperTiesModel" "letters" "[I" ∈ ax_U := ax_in 1172 (by decide +kernel) rfl
theorem fl_X12_37 : Cond.fieldLink RX12 37 "CopperTiesModel" "stack" "[I" ∈ ax_U := ax_in 1173 (by decide +kernel) rfl
theorem fl_X12_40 : Cond.fieldLink RX12 40 "CopperTiesModel" "readRule" "[I" ∈ ax_U := ax_in 1174 (by decide +kernel) rfl
theorem fl_X12_43 : Cond.fieldLink RX12 43 "CopperTiesModel" "readHouse" "[I" ∈ ax_U := ax_in 1175 (by decide +kernel) rfl
theorem fl_X12_46 : Cond.fieldLink RX12 46 "CopperTiesModel" "readWire" "[I" ∈ ax_U := ax_in 1176 (by decide +kernel) rfl
theorem fl_X12_49 : Cond.fieldLink RX12 49 "CopperTiesModel" "house" "[I" ∈ ax_U := ax_in 1179 (by decide +kernel) rfl
theorem fl_X12_52 : Cond.fieldLink RX12 52 "CopperTiesModel" "now" "[I" ∈ ax_U := ax_in 1182 (by decide +kernel) rfl
theorem fl_X12_55 : Cond.fieldLink RX12 55 "CopperTiesModel" "refused" "[I" ∈ ax_U := ax_in 1183 (by decide +kernel) rfl
theorem fl_X12_58 : Cond.fieldLink RX12 58 "CopperTiesModel" "holding" "I" ∈ ax_U := ax_in 1184 (by decide +kernel) rfl
theorem fl_X12_62 : Cond.fieldLink RX12 62 "CopperTiesModel" "stormy" "I" ∈ ax_U := ax_in 1185 (by decide +kernel) rfl
theorem fl_X12_65 : Cond.fieldLink RX12 65 "CopperTiesModel" "partAt" "[I" ∈ ax_U := ax_in 1187 (by decide +kernel) rfl
theorem fl_X12_68 : Cond.fieldLink RX12 68 "CopperTiesModel" "partOf" "[I" ∈ ax_U := ax_in 1188 (by decide +kernel) rfl
theorem fl_X12_71 : Cond.fieldLink RX12 71 "CopperTiesModel" "partBy" "[I" ∈ ax_U := ax_in 1189 (by decide +kernel) rfl
theorem fl_X12_74 : Cond.fieldLink RX12 74 "CopperTiesModel" "kept" "[I" ∈ ax_U := ax_in 1190 (by decide +kernel) rfl
theorem fl_X12_77 : Cond.fieldLink RX12 77 "CopperTiesModel" "keptRows" "[I" ∈ ax_U := ax_in 1193 (by decide +kernel) rfl
theorem fl_X12_80 : Cond.fieldLink RX12 80 "CopperTiesModel" "partner" "[I" ∈ ax_U := ax_in 1196 (by decide +kernel) rfl
theorem fl_X12_83 : Cond.fieldLink RX12 83 "CopperTiesModel" "noteAt" "[I" ∈ ax_U := ax_in 1199 (by decide +kernel) rfl
theorem fl_X12_86 : Cond.fieldLink RX12 86 "CopperTiesModel" "noteOf" "[I" ∈ ax_U := ax_in 1200 (by decide +kernel) rfl
theorem fl_X12_89 : Cond.fieldLink RX12 89 "CopperTiesModel" "noteWho" "[I" ∈ ax_U := ax_in 1201 (by decide +kernel) rfl
theorem fl_X12_92 : Cond.fieldLink RX12 92 "CopperTiesModel" "noteIs" "[Z" ∈ ax_U := ax_in 1202 (by decide +kernel) rfl
theorem fl_X12_96 : Cond.fieldLink RX12 96 "CopperTiesModel" "apart" "[I" ∈ ax_U := ax_in 1204 (by decide +kernel) rfl
theorem fl_X12_99 : Cond.fieldLink RX12 99 "CopperTiesModel" "testSort" "[I" ∈ ax_U := ax_in 1205 (by decide +kernel) rfl
theorem fl_X12_102 : Cond.fieldLink RX12 102 "CopperTiesModel" "testIs" "[Z" ∈ ax_U := ax_in 1206 (by decide +kernel) rfl
theorem fl_X12_105 : Cond.fieldLink RX12 105 "CopperTiesModel" "image" "[I" ∈ ax_U := ax_in 1208 (by decide +kernel) rfl
theorem fl_X12_108 : Cond.fieldLink RX12 108 "CopperTiesModel" "thrown" "I" ∈ ax_U := ax_in 1157 (by decide +kernel) rfl
theorem fl_X12_115 : Cond.fieldLink RX12 115 "CopperTiesModel" "size" "I" ∈ ax_U := ax_in 1159 (by decide +kernel) rfl
theorem fl_X12_118 : Cond.fieldLink RX12 118 "CopperTiesModel" "at" "I" ∈ ax_U := ax_in 1160 (by decide +kernel) rfl
theorem fl_X12_125 : Cond.fieldLink RX12 125 "CopperTiesModel" "wrong" "I" ∈ ax_U := ax_in 1161 (by decide +kernel) rfl
theorem fl_X12_128 : Cond.fieldLink RX12 128 "CopperTiesModel" "text" "I" ∈ ax_U := ax_in 1171 (by decide +kernel) rfl
theorem fl_X12_131 : Cond.fieldLink RX12 131 "CopperTiesModel" "deep" "I" ∈ ax_U := ax_in 1162 (by decide +kernel) rfl
theorem fl_X12_247 : Cond.fieldLink RX12 247 "CopperTiesModel" "readHouses" "I" ∈ ax_U := ax_in 1177 (by decide +kernel) rfl
theorem fl_X12_250 : Cond.fieldLink RX12 250 "CopperTiesModel" "readWires" "I" ∈ ax_U := ax_in 1178 (by decide +kernel) rfl
theorem fl_X12_271 : Cond.fieldLink RX12 271 "CopperTiesModel" "houses" "I" ∈ ax_U := ax_in 1180 (by decide +kernel) rfl
theorem fl_X12_274 : Cond.fieldLink RX12 274 "CopperTiesModel" "dry" "I" ∈ ax_U := ax_in 1181 (by decide +kernel) rfl
theorem fl_X12_283 : Cond.fieldLink RX12 283 "CopperTiesModel" "noted" "I" ∈ ax_U := ax_in 1203 (by decide +kernel) rfl
theorem fl_X12_286 : Cond.fieldLink RX12 286 "CopperTiesModel" "tested" "I" ∈ ax_U := ax_in 1207 (by decide +kernel) rfl
theorem fl_X12_289 : Cond.fieldLink RX12 289 "CopperTiesModel" "acts" "I" ∈ ax_U := ax_in 1194 (by decide +kernel) rfl
theorem fl_X12_292 : Cond.fieldLink RX12 292 "CopperTiesModel" "hasImage" "Z" ∈ ax_U := ax_in 1209 (by decide +kernel) rfl
theorem fl_X12_299 : Cond.fieldLink RX12 299 "CopperTiesModel" "laws" "I" ∈ ax_U := ax_in 1170 (by decide +kernel) rfl
theorem fl_X12_318 : Cond.fieldLink RX12 318 "CopperTiesModel" "partMany" "I" ∈ ax_U := ax_in 1191 (by decide +kernel) rfl
theorem fl_X12_324 : Cond.fieldLink RX12 324 "CopperTiesModel" "wasted" "I" ∈ ax_U := ax_in 1192 (by decide +kernel) rfl
theorem fl_X12_384 : Cond.fieldLink RX12 384 "CopperTiesModel" "kites" "I" ∈ ax_U := ax_in 1186 (by decide +kernel) rfl
theorem fl_X12_387 : Cond.fieldLink RX12 387 "CopperTiesModel" "draws" "J" ∈ ax_U := ax_in 1195 (by decide +kernel) rfl
theorem fl_X12_407 : Cond.fieldLink RX12 407 "CopperTiesModel" "couplesRow" "I" ∈ ax_U := ax_in 1197 (by decide +kernel) rfl
theorem fl_X12_410 : Cond.fieldLink RX12 410 "CopperTiesModel" "couplesFar" "I" ∈ ax_U := ax_in 1198 (by decide +kernel) rfl
theorem fl_X2_11 : Cond.fieldLink RX2 11 "CopperTies$Chronicle" "ring" "[I" ∈ ax_U := ax_in 274 (by decide +kernel) rfl
theorem fl_X2_15 : Cond.fieldLink RX2 15 "CopperTies$Chronicle" "kept" "[I" ∈ ax_U := ax_in 275 (by decide +kernel) rfl
theorem fl_X2_18 : Cond.fieldLink RX2 18 "CopperTies$Chronicle" "told" "I" ∈ ax_U := ax_in 276 (by decide +kernel) rfl
theorem fl_X2_32 : Cond.fieldLink RX2 32 "CopperTies$Chronicle" "keptLength" "I" ∈ ax_U := ax_in 278 (by decide +kernel) rfl
theorem fl_X3_9 : Cond.fieldLink RX3 9 "CopperTies$Clues" "struck" "[I" ∈ ax_U := ax_in 294 (by decide +kernel) rfl
theorem fl_X3_15 : Cond.fieldLink RX3 15 "CopperTies$Clues" "strength" "[I" ∈ ax_U := ax_in 296 (by decide +kernel) rfl
theorem fl_X3_18 : Cond.fieldLink RX3 18 "CopperTies$Clues" "seen" "[I" ∈ ax_U := ax_in 298 (by decide +kernel) rfl
theorem fl_X3_21 : Cond.fieldLink RX3 21 "CopperTies$Clues" "burnt" "[I" ∈ ax_U := ax_in 300 (by decide +kernel) rfl
theorem fl_X3_24 : Cond.fieldLink RX3 24 "CopperTies$Clues" "told" "I" ∈ ax_U := ax_in 302 (by decide +kernel) rfl
theorem fl_X4_9 : Cond.fieldLink RX4 9 "CopperTies$Couples" "partner" "[I" ∈ ax_U := ax_in 322 (by decide +kernel) rfl
theorem fl_X4_15 : Cond.fieldLink RX4 15 "CopperTies$Couples" "belt" "LCopperTies$Belt;" ∈ ax_U := ax_in 321 (by decide +kernel) rfl
theorem fl_X4_19 : Cond.fieldLink RX4 19 "CopperTies$Couples" "leastSum" "I" ∈ ax_U := ax_in 323 (by decide +kernel) rfl
theorem fl_X4_23 : Cond.fieldLink RX4 23 "CopperTies$Couples" "leastRow" "I" ∈ ax_U := ax_in 325 (by decide +kernel) rfl
theorem fl_X4_26 : Cond.fieldLink RX4 26 "CopperTies$Belt" "houses" "I" ∈ ax_U := ax_in 169 (by decide +kernel) rfl
theorem fl_X4_43 : Cond.fieldLink RX4 43 "CopperTies$Belt" "kind" "[I" ∈ ax_U := ax_in 153 (by decide +kernel) rfl
theorem fl_X5_11 : Cond.fieldLink RX5 11 "CopperTies$History" "rows" "[I" ∈ ax_U := ax_in 257 (by decide +kernel) rfl
theorem fl_X5_15 : Cond.fieldLink RX5 15 "CopperTies$History" "acts" "I" ∈ ax_U := ax_in 258 (by decide +kernel) rfl
theorem fl_X5_19 : Cond.fieldLink RX5 19 "CopperTies$History" "next" "I" ∈ ax_U := ax_in 260 (by decide +kernel) rfl
theorem fl_X6_11 : Cond.fieldLink RX6 11 "CopperTies$LawReader" "steps" "[I" ∈ ax_U := ax_in 96 (by decide +kernel) rfl
theorem fl_X6_15 : Cond.fieldLink RX6 15 "CopperTies$LawReader" "tape" "LCopperTies$Tape;" ∈ ax_U := ax_in 95 (by decide +kernel) rfl
theorem fl_X6_19 : Cond.fieldLink RX6 19 "CopperTies$Tape" "at" "I" ∈ ax_U := ax_in 40 (by decide +kernel) rfl
theorem fl_X6_25 : Cond.fieldLink RX6 25 "CopperTies$LawReader" "size" "I" ∈ ax_U := ax_in 98 (by decide +kernel) rfl
theorem fl_X6_70 : Cond.fieldLink RX6 70 "CopperTies$LawReader" "LETTERS" "[C" ∈ ax_U := ax_in 524 (by decide +kernel) rfl
theorem fl_X6_77 : Cond.fieldLink RX6 77 "CopperTies$Tape" "number" "I" ∈ ax_U := ax_in 45 (by decide +kernel) rfl
theorem fl_X7_11 : Cond.fieldLink RX7 11 "CopperTies$Laws" "steps" "[I" ∈ ax_U := ax_in 113 (by decide +kernel) rfl
theorem fl_X7_17 : Cond.fieldLink RX7 17 "CopperTies$Laws" "sizes" "[I" ∈ ax_U := ax_in 114 (by decide +kernel) rfl
theorem fl_X7_20 : Cond.fieldLink RX7 20 "CopperTies$Laws" "letters" "[I" ∈ ax_U := ax_in 115 (by decide +kernel) rfl
theorem fl_X7_23 : Cond.fieldLink RX7 23 "CopperTies$Laws" "stack" "[I" ∈ ax_U := ax_in 116 (by decide +kernel) rfl
theorem fl_X7_26 : Cond.fieldLink RX7 26 "CopperTies$Laws" "holding" "I" ∈ ax_U := ax_in 119 (by decide +kernel) rfl
theorem fl_X7_30 : Cond.fieldLink RX7 30 "CopperTies$Laws" "told" "I" ∈ ax_U := ax_in 117 (by decide +kernel) rfl
theorem fl_X7_33 : Cond.fieldLink RX7 33 "CopperTies$LawReader" "steps" "[I" ∈ ax_U := ax_in 97 (by decide +kernel) rfl
theorem fl_X7_34 : Cond.fieldLink RX7 34 "CopperTies$LawReader" "size" "I" ∈ ax_U := ax_in 99 (by decide +kernel) rfl
theorem fl_X7_43 : Cond.fieldLink RX7 43 "CopperTies$Laws" "top" "I" ∈ ax_U := ax_in 122 (by decide +kernel) rfl
theorem fl_X8_9 : Cond.fieldLink RX8 9 "CopperTies$Storm" "kept" "[I" ∈ ax_U := ax_in 223 (by decide +kernel) rfl
theorem fl_X8_15 : Cond.fieldLink RX8 15 "CopperTies$Storm" "comesTo" "[I" ∈ ax_U := ax_in 225 (by decide +kernel) rfl
theorem fl_X8_18 : Cond.fieldLink RX8 18 "CopperTies$Storm" "comesBy" "[I" ∈ ax_U := ax_in 226 (by decide +kernel) rfl
theorem fl_X8_21 : Cond.fieldLink RX8 21 "CopperTies$Storm" "comes" "[I" ∈ ax_U := ax_in 227 (by decide +kernel) rfl
theorem fl_X8_24 : Cond.fieldLink RX8 24 "CopperTies$Storm" "belt" "LCopperTies$Belt;" ∈ ax_U := ax_in 221 (by decide +kernel) rfl
theorem fl_X8_28 : Cond.fieldLink RX8 28 "CopperTies$Storm" "laws" "LCopperTies$Laws;" ∈ ax_U := ax_in 222 (by decide +kernel) rfl
theorem fl_X8_38 : Cond.fieldLink RX8 38 "CopperTies$Storm" "sent" "I" ∈ ax_U := ax_in 228 (by decide +kernel) rfl
theorem fl_X8_42 : Cond.fieldLink RX8 42 "CopperTies$Storm" "visited" "I" ∈ ax_U := ax_in 229 (by decide +kernel) rfl
theorem fl_X8_45 : Cond.fieldLink RX8 45 "CopperTies$Storm" "saltTook" "I" ∈ ax_U := ax_in 230 (by decide +kernel) rfl
theorem fl_X8_75 : Cond.fieldLink RX8 75 "CopperTies$Belt" "dry" "I" ∈ ax_U := ax_in 180 (by decide +kernel) rfl
theorem fl_X8_78 : Cond.fieldLink RX8 78 "CopperTies$Laws" "holding" "I" ∈ ax_U := ax_in 120 (by decide +kernel) rfl
theorem fl_X8_83 : Cond.fieldLink RX8 83 "CopperTies$Belt" "height" "[I" ∈ ax_U := ax_in 147 (by decide +kernel) rfl
theorem fl_X8_86 : Cond.fieldLink RX8 86 "CopperTies$Belt" "bears" "[I" ∈ ax_U := ax_in 150 (by decide +kernel) rfl
theorem fl_X8_89 : Cond.fieldLink RX8 89 "CopperTies$Belt" "kind" "[I" ∈ ax_U := ax_in 154 (by decide +kernel) rfl
theorem fl_X8_110 : Cond.fieldLink RX8 110 "CopperTies$Belt" "wires" "I" ∈ ax_U := ax_in 173 (by decide +kernel) rfl
theorem fl_X8_113 : Cond.fieldLink RX8 113 "CopperTies$Belt" "salt" "[I" ∈ ax_U := ax_in 165 (by decide +kernel) rfl
theorem fl_X8_116 : Cond.fieldLink RX8 116 "CopperTies$Belt" "from" "[I" ∈ ax_U := ax_in 159 (by decide +kernel) rfl
theorem fl_X8_119 : Cond.fieldLink RX8 119 "CopperTies$Belt" "to" "[I" ∈ ax_U := ax_in 162 (by decide +kernel) rfl
theorem fl_X8_122 : Cond.fieldLink RX8 122 "CopperTies$Belt" "houses" "I" ∈ ax_U := ax_in 171 (by decide +kernel) rfl
theorem fl_X9_9 : Cond.fieldLink RX9 9 "CopperTies$Tape" "signs" "[I" ∈ ax_U := ax_in 36 (by decide +kernel) rfl
theorem fl_X9_15 : Cond.fieldLink RX9 15 "CopperTies$Tape" "length" "I" ∈ ax_U := ax_in 37 (by decide +kernel) rfl
theorem fl_X9_19 : Cond.fieldLink RX9 19 "CopperTies$Tape" "at" "I" ∈ ax_U := ax_in 41 (by decide +kernel) rfl
theorem fl_X9_30 : Cond.fieldLink RX9 30 "CopperTies$Tape" "number" "I" ∈ ax_U := ax_in 43 (by decide +kernel) rfl
theorem kc_J6_264 : Cond.constant RJ6 264 (65536) ∈ ax_U := ax_in 1738 (by decide +kernel) rfl
theorem kc_J6_265 : Cond.constant RJ6 265 (1431655765) ∈ ax_U := ax_in 681 (by decide +kernel) rfl
theorem kc_J6_266 : Cond.constant RJ6 266 (858993459) ∈ ax_U := ax_in 682 (by decide +kernel) rfl
theorem kc_J6_267 : Cond.constant RJ6 267 (252645135) ∈ ax_U := ax_in 683 (by decide +kernel) rfl
theorem kc_L_85 : Cond.constantLong RL 85 (4294967295) ∈ ax_U := ax_in 1833 (by decide +kernel) rfl
theorem kc_X11_241 : Cond.constant RX11 241 (-1000000) ∈ ax_U := ax_in 626 (by decide +kernel) rfl
theorem kc_X11_421 : Cond.constantLong RX11 421 (1000000000) ∈ ax_U := ax_in 1058 (by decide +kernel) rfl
theorem kc_X11_429 : Cond.constantLong RX11 429 (1000000) ∈ ax_U := ax_in 1075 (by decide +kernel) rfl
theorem kc_X11_447 : Cond.constantLong RX11 447 (6364136223846793005) ∈ ax_U := ax_in 806 (by decide +kernel) rfl
theorem kc_X11_449 : Cond.constantLong RX11 449 (1442695040888963407) ∈ ax_U := ax_in 807 (by decide +kernel) rfl
theorem kc_X12_198 : Cond.constantLong RX12 198 (-1000000) ∈ ax_U := ax_in 1563 (by decide +kernel) rfl
theorem kc_X12_200 : Cond.constantLong RX12 200 (1000000) ∈ ax_U := ax_in 1564 (by decide +kernel) rfl
theorem kc_X12_391 : Cond.constantLong RX12 391 (6364136223846793005) ∈ ax_U := ax_in 1636 (by decide +kernel) rfl
theorem kc_X12_393 : Cond.constantLong RX12 393 (1442695040888963407) ∈ ax_U := ax_in 1637 (by decide +kernel) rfl
theorem kc_X12_453 : Cond.constant RX12 453 (-1000000) ∈ ax_U := ax_in 1751 (by decide +kernel) rfl
theorem kc_X12_464 : Cond.constantLong RX12 464 (1000000000) ∈ ax_U := ax_in 1800 (by decide +kernel) rfl
theorem kc_X7_58 : Cond.constantLong RX7 58 (1000000) ∈ ax_U := ax_in 703 (by decide +kernel) rfl
theorem kc_X7_60 : Cond.constant RX7 60 (1000000) ∈ ax_U := ax_in 704 (by decide +kernel) rfl
theorem kc_X7_61 : Cond.constantLong RX7 61 (-1000000) ∈ ax_U := ax_in 705 (by decide +kernel) rfl
theorem kc_X7_63 : Cond.constant RX7 63 (-1000000) ∈ ax_U := ax_in 706 (by decide +kernel) rfl
theorem ki_m8 : Int32.ofInt (-8) = (-8) := by decide
theorem ki_m1 : Int32.ofInt (-1) = (-1) := by decide
theorem ki_0 : Int32.ofInt (0) = (0) := by decide
theorem ki_1 : Int32.ofInt (1) = (1) := by decide
theorem ki_2 : Int32.ofInt (2) = (2) := by decide
theorem ki_3 : Int32.ofInt (3) = (3) := by decide
theorem ki_4 : Int32.ofInt (4) = (4) := by decide
theorem ki_5 : Int32.ofInt (5) = (5) := by decide
theorem ki_7 : Int32.ofInt (7) = (7) := by decide
theorem ki_8 : Int32.ofInt (8) = (8) := by decide
theorem ki_16 : Int32.ofInt (16) = (16) := by decide
theorem kb_m2 : (Int8.ofInt (-2)).toInt32 = (-2) := by decide
theorem kb_6 : (Int8.ofInt (6)).toInt32 = (6) := by decide
theorem kb_7 : (Int8.ofInt (7)).toInt32 = (7) := by decide
theorem kb_8 : (Int8.ofInt (8)).toInt32 = (8) := by decide
theorem kb_9 : (Int8.ofInt (9)).toInt32 = (9) := by decide
theorem kb_10 : (Int8.ofInt (10)).toInt32 = (10) := by decide
theorem kb_11 : (Int8.ofInt (11)).toInt32 = (11) := by decide
theorem kb_12 : (Int8.ofInt (12)).toInt32 = (12) := by decide
theorem kb_13 : (Int8.ofInt (13)).toInt32 = (13) := by decide
theorem kb_15 : (Int8.ofInt (15)).toInt32 = (15) := by decide
theorem kb_16 : (Int8.ofInt (16)).toInt32 = (16) := by decide
theorem kb_17 : (Int8.ofInt (17)).toInt32 = (17) := by decide
theorem kb_20 : (Int8.ofInt (20)).toInt32 = (20) := by decide
theorem kb_24 : (Int8.ofInt (24)).toInt32 = (24) := by decide
theorem kb_32 : (Int8.ofInt (32)).toInt32 = (32) := by decide
theorem kb_33 : (Int8.ofInt (33)).toInt32 = (33) := by decide
theorem kb_35 : (Int8.ofInt (35)).toInt32 = (35) := by decide
theorem kb_36 : (Int8.ofInt (36)).toInt32 = (36) := by decide
theorem kb_38 : (Int8.ofInt (38)).toInt32 = (38) := by decide
theorem kb_40 : (Int8.ofInt (40)).toInt32 = (40) := by decide
theorem kb_41 : (Int8.ofInt (41)).toInt32 = (41) := by decide
theorem kb_42 : (Int8.ofInt (42)).toInt32 = (42) := by decide
theorem kb_43 : (Int8.ofInt (43)).toInt32 = (43) := by decide
theorem kb_45 : (Int8.ofInt (45)).toInt32 = (45) := by decide
theorem kb_47 : (Int8.ofInt (47)).toInt32 = (47) := by decide
theorem kb_48 : (Int8.ofInt (48)).toInt32 = (48) := by decide
theorem kb_50 : (Int8.ofInt (50)).toInt32 = (50) := by decide
theorem kb_57 : (Int8.ofInt (57)).toInt32 = (57) := by decide
theorem kb_58 : (Int8.ofInt (58)).toInt32 = (58) := by decide
theorem kb_59 : (Int8.ofInt (59)).toInt32 = (59) := by decide
theorem kb_60 : (Int8.ofInt (60)).toInt32 = (60) := by decide
theorem kb_61 : (Int8.ofInt (61)).toInt32 = (61) := by decide
theorem kb_62 : (Int8.ofInt (62)).toInt32 = (62) := by decide
theorem kb_63 : (Int8.ofInt (63)).toInt32 = (63) := by decide
theorem kb_64 : (Int8.ofInt (64)).toInt32 = (64) := by decide
theorem kb_80 : (Int8.ofInt (80)).toInt32 = (80) := by decide
theorem kb_84 : (Int8.ofInt (84)).toInt32 = (84) := by decide
theorem kb_85 : (Int8.ofInt (85)).toInt32 = (85) := by decide
theorem kb_86 : (Int8.ofInt (86)).toInt32 = (86) := by decide
theorem kb_87 : (Int8.ofInt (87)).toInt32 = (87) := by decide
theorem kb_88 : (Int8.ofInt (88)).toInt32 = (88) := by decide
theorem kb_91 : (Int8.ofInt (91)).toInt32 = (91) := by decide
theorem kb_93 : (Int8.ofInt (93)).toInt32 = (93) := by decide
theorem kb_97 : (Int8.ofInt (97)).toInt32 = (97) := by decide
theorem kb_98 : (Int8.ofInt (98)).toInt32 = (98) := by decide
theorem kb_99 : (Int8.ofInt (99)).toInt32 = (99) := by decide
theorem kb_100 : (Int8.ofInt (100)).toInt32 = (100) := by decide
theorem kb_104 : (Int8.ofInt (104)).toInt32 = (104) := by decide
theorem kb_107 : (Int8.ofInt (107)).toInt32 = (107) := by decide
theorem kb_108 : (Int8.ofInt (108)).toInt32 = (108) := by decide
theorem kb_110 : (Int8.ofInt (110)).toInt32 = (110) := by decide
theorem kb_112 : (Int8.ofInt (112)).toInt32 = (112) := by decide
theorem kb_115 : (Int8.ofInt (115)).toInt32 = (115) := by decide
theorem kb_116 : (Int8.ofInt (116)).toInt32 = (116) := by decide
theorem kb_119 : (Int8.ofInt (119)).toInt32 = (119) := by decide
theorem kb_120 : (Int8.ofInt (120)).toInt32 = (120) := by decide
theorem kb_121 : (Int8.ofInt (121)).toInt32 = (121) := by decide
theorem kb_124 : (Int8.ofInt (124)).toInt32 = (124) := by decide
theorem ks_128 : (Int16.ofInt (128)).toInt32 = (128) := by decide
theorem ks_140 : (Int16.ofInt (140)).toInt32 = (140) := by decide
theorem ks_180 : (Int16.ofInt (180)).toInt32 = (180) := by decide
theorem ks_240 : (Int16.ofInt (240)).toInt32 = (240) := by decide
theorem ks_255 : (Int16.ofInt (255)).toInt32 = (255) := by decide
theorem ks_256 : (Int16.ofInt (256)).toInt32 = (256) := by decide
theorem ks_268 : (Int16.ofInt (268)).toInt32 = (268) := by decide
theorem ks_384 : (Int16.ofInt (384)).toInt32 = (384) := by decide
theorem ks_520 : (Int16.ofInt (520)).toInt32 = (520) := by decide
theorem ks_700 : (Int16.ofInt (700)).toInt32 = (700) := by decide
theorem ks_960 : (Int16.ofInt (960)).toInt32 = (960) := by decide
theorem ks_999 : (Int16.ofInt (999)).toInt32 = (999) := by decide
theorem ks_1000 : (Int16.ofInt (1000)).toInt32 = (1000) := by decide
theorem ks_1440 : (Int16.ofInt (1440)).toInt32 = (1440) := by decide
theorem ks_2600 : (Int16.ofInt (2600)).toInt32 = (2600) := by decide
theorem ks_10720 : (Int16.ofInt (10720)).toInt32 = (10720) := by decide
