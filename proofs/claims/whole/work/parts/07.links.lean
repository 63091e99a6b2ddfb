/-! methods, links and literals; printed by wip/tools/gen_walk.py -/
abbrev mE_feed : MI := (prog_1_method_2_code, 5, some .int, ⟨"EveryHand", "feed", "(JI)I"⟩, rm 1)
abbrev mT_empty : MI := (prog_4_method_3_code, 1, none, ⟨"EveryHand$Town", "empty", "()V"⟩, rm 1)
abbrev mX_isLetter : MI := (prog_5_method_13_code, 2, some .boolean, ⟨"EveryHand$TownText", "isLetter", "(I)Z"⟩, rm 1)
abbrev mX_isDigit : MI := (prog_5_method_14_code, 2, some .boolean, ⟨"EveryHand$TownText", "isDigit", "(I)Z"⟩, rm 1)
abbrev mX_step : MI := (prog_5_method_12_code, 1, none, ⟨"EveryHand$TownText", "step", "()V"⟩, rm 2)
abbrev mX_reads : MI := (prog_5_method_11_code, 3, some .boolean, ⟨"EveryHand$TownText", "reads", "(Ljava/lang/String;)Z"⟩, rm 6)
abbrev mX_readNumber : MI := (prog_5_method_9_code, 5, some .int, ⟨"EveryHand$TownText", "readNumber", "(II)I"⟩, rm 3)
abbrev mT_addPerson : MI := (prog_4_method_6_code, 2, some .int, ⟨"EveryHand$Town", "addPerson", "(I)I"⟩, rm 1)
abbrev mX_readEnd : MI := (prog_5_method_8_code, 1, some .boolean, ⟨"EveryHand$TownText", "readEnd", "()Z"⟩, rm 7)
abbrev mX_readPerson : MI := (prog_5_method_4_code, 3, some .boolean, ⟨"EveryHand$TownText", "readPerson", "(LEveryHand$Town;)Z"⟩, rm 8)
abbrev mT_acquaint : MI := (prog_4_method_10_code, 4, none, ⟨"EveryHand$Town", "acquaint", "(IIZ)V"⟩, rm 1)
abbrev mX_readKnow : MI := (prog_5_method_5_code, 4, some .boolean, ⟨"EveryHand$TownText", "readKnow", "(LEveryHand$Town;)Z"⟩, rm 8)
abbrev mX_kindRead : MI := (prog_5_method_10_code, 1, some .int, ⟨"EveryHand$TownText", "kindRead", "()I"⟩, rm 7)
abbrev mT_addCoin : MI := (prog_4_method_7_code, 4, some .int, ⟨"EveryHand$Town", "addCoin", "(III)I"⟩, rm 1)
abbrev mX_readHad : MI := (prog_5_method_7_code, 5, some .boolean, ⟨"EveryHand$TownText", "readHad", "(LEveryHand$Town;I)Z"⟩, rm 7)
abbrev mX_readCoin : MI := (prog_5_method_6_code, 6, some .boolean, ⟨"EveryHand$TownText", "readCoin", "(LEveryHand$Town;I)Z"⟩, rm 8)
abbrev mX_readStatement : MI := (prog_5_method_3_code, 3, some .boolean, ⟨"EveryHand$TownText", "readStatement", "(LEveryHand$Town;)Z"⟩, rm 9)
abbrev mX_readInto : MI := (prog_5_method_2_code, 3, some .int, ⟨"EveryHand$TownText", "readInto", "(LEveryHand$Town;)I"⟩, rm 10)
abbrev mE_town : MI := (prog_1_method_3_code, 3, some .int, ⟨"EveryHand", "town", "()I"⟩, rm 11)
abbrev mE_isRank : MI := (prog_1_method_45_code, 1, some .boolean, ⟨"EveryHand", "isRank", "(I)Z"⟩, rm 1)
abbrev mE_person : MI := (prog_1_method_4_code, 2, some .int, ⟨"EveryHand", "person", "(I)I"⟩, rm 2)
abbrev mT_hasPerson : MI := (prog_4_method_4_code, 2, some .boolean, ⟨"EveryHand$Town", "hasPerson", "(I)Z"⟩, rm 1)
abbrev mT_purse : MI := (prog_4_method_15_code, 4, some .int, ⟨"EveryHand$Town", "purse", "(I)I"⟩, rm 1)
abbrev mE_holds : MI := (prog_1_method_48_code, 2, some .boolean, ⟨"EveryHand", "holds", "(II)Z"⟩, rm 1)
abbrev mT_worth : MI := (prog_4_method_13_code, 3, some .int, ⟨"EveryHand$Town", "worth", "(I)I"⟩, rm 1)
abbrev mT_worthOfAll : MI := (prog_4_method_14_code, 4, some .int, ⟨"EveryHand$Town", "worthOfAll", "(I)I"⟩, rm 2)
abbrev mT_riches : MI := (prog_4_method_17_code, 2, some .int, ⟨"EveryHand$Town", "riches", "(I)I"⟩, rm 3)
abbrev mE_personOf : MI := (prog_1_method_5_code, 3, some .int, ⟨"EveryHand", "personOf", "(II)I"⟩, rm 4)
abbrev mE_rank : MI := (prog_1_method_6_code, 4, some .int, ⟨"EveryHand", "rank", "(II)I"⟩, rm 2)
abbrev mT_areAcquainted : MI := (prog_4_method_9_code, 3, some .boolean, ⟨"EveryHand$Town", "areAcquainted", "(II)Z"⟩, rm 2)
abbrev mE_know : MI := (prog_1_method_7_code, 4, some .int, ⟨"EveryHand", "know", "(IIZ)I"⟩, rm 3)
abbrev mE_isKind : MI := (prog_1_method_46_code, 1, some .boolean, ⟨"EveryHand", "isKind", "(I)Z"⟩, rm 1)
abbrev mE_isA : MI := (prog_1_method_47_code, 1, some .boolean, ⟨"EveryHand", "isA", "(I)Z"⟩, rm 1)
abbrev mE_coin : MI := (prog_1_method_8_code, 4, some .int, ⟨"EveryHand", "coin", "(III)I"⟩, rm 2)
abbrev mT_hasCoin : MI := (prog_4_method_5_code, 2, some .boolean, ⟨"EveryHand$Town", "hasCoin", "(I)Z"⟩, rm 1)
abbrev mT_kindAllows : MI := (prog_4_method_18_code, 5, some .boolean, ⟨"EveryHand$Town", "kindAllows", "(III)Z"⟩, rm 2)
abbrev mT_reach : MI := (prog_4_method_19_code, 5, some .int, ⟨"EveryHand$Town", "reach", "(II)I"⟩, rm 3)
abbrev mT_takers : MI := (prog_4_method_20_code, 2, some .int, ⟨"EveryHand$Town", "takers", "(I)I"⟩, rm 4)
abbrev mE_coinOf : MI := (prog_1_method_9_code, 3, some .int, ⟨"EveryHand", "coinOf", "(II)I"⟩, rm 5)
abbrev mE_stamp : MI := (prog_1_method_10_code, 5, some .int, ⟨"EveryHand", "stamp", "(III)I"⟩, rm 2)
abbrev mJI_bitCount : MI := (prog_9_method_49_code, 1, some .int, ⟨"java/lang/Integer", "bitCount", "(I)I"⟩, rm 1)
abbrev mE_clean : MI := (prog_1_method_11_code, 3, some .int, ⟨"EveryHand", "clean", "(I)I"⟩, rm 2)
abbrev mE_may : MI := (prog_1_method_12_code, 3, some .int, ⟨"EveryHand", "may", "(II)I"⟩, rm 5)
abbrev mT_removeCoin : MI := (prog_4_method_8_code, 3, none, ⟨"EveryHand$Town", "removeCoin", "(I)V"⟩, rm 1)
abbrev mT_hand : MI := (prog_4_method_21_code, 3, some .boolean, ⟨"EveryHand$Town", "hand", "(II)Z"⟩, rm 2)
abbrev mE_give : MI := (prog_1_method_13_code, 3, some .int, ⟨"EveryHand", "give", "(II)I"⟩, rm 5)
abbrev mT_draw : MI := (prog_4_method_22_code, 5, some .int, ⟨"EveryHand$Town", "draw", "(I)I"⟩, rm 2)
abbrev mE_lot : MI := (prog_1_method_14_code, 4, some .int, ⟨"EveryHand", "lot", "(I)I"⟩, rm 5)
abbrev mE_leastCoinToGive : MI := (prog_1_method_54_code, 2, some .int, ⟨"EveryHand", "leastCoinToGive", "()I"⟩, rm 5)
abbrev mE_lots : MI := (prog_1_method_15_code, 4, some .int, ⟨"EveryHand", "lots", "(I)I"⟩, rm 6)
abbrev mE_melt : MI := (prog_1_method_16_code, 3, some .int, ⟨"EveryHand", "melt", "(I)I"⟩, rm 2)
abbrev mW_takers : MI := (prog_6_method_5_code, 3, some .int, ⟨"EveryHand$Walks", "takers", "(II)I"⟩, rm 1)
abbrev mW_at : MI := (prog_6_method_6_code, 3, some .int, ⟨"EveryHand$Walks", "at", "(II)I"⟩, rm 1)
abbrev mW_value : MI := (prog_6_method_4_code, 8, some .int, ⟨"EveryHand$Walks", "value", "(III)I"⟩, rm 2)
abbrev mW_fill : MI := (prog_6_method_3_code, 4, none, ⟨"EveryHand$Walks", "fill", "(II)V"⟩, rm 3)
abbrev mW_survey : MI := (prog_6_method_2_code, 6, none, ⟨"EveryHand$Walks", "survey", "(LEveryHand$Town;II)V"⟩, rm 4)
abbrev mE_look : MI := (prog_1_method_51_code, 3, some .int, ⟨"EveryHand", "look", "(II)I"⟩, rm 5)
abbrev mE_left : MI := (prog_1_method_17_code, 2, some .int, ⟨"EveryHand", "left", "(I)I"⟩, rm 6)
abbrev mW_firstTaker : MI := (prog_6_method_7_code, 6, some .int, ⟨"EveryHand$Walks", "firstTaker", "(II)I"⟩, rm 2)
abbrev mE_row : MI := (prog_1_method_18_code, 6, some .int, ⟨"EveryHand", "row", "(II)I"⟩, rm 6)
abbrev mE_through : MI := (prog_1_method_19_code, 2, some .int, ⟨"EveryHand", "through", "(I)I"⟩, rm 6)
abbrev mE_ways : MI := (prog_1_method_20_code, 2, some .int, ⟨"EveryHand", "ways", "(I)I"⟩, rm 6)
abbrev mE_last : MI := (prog_1_method_21_code, 2, some .int, ⟨"EveryHand", "last", "(I)I"⟩, rm 6)
abbrev mE_stuck : MI := (prog_1_method_22_code, 3, some .int, ⟨"EveryHand", "stuck", "()I"⟩, rm 5)
abbrev mE_best : MI := (prog_1_method_23_code, 8, some .int, ⟨"EveryHand", "best", "(II)I"⟩, rm 6)
abbrev mT_purseFor : MI := (prog_4_method_16_code, 5, some .int, ⟨"EveryHand$Town", "purseFor", "(II)I"⟩, rm 5)
abbrev mE_paid : MI := (prog_1_method_24_code, 8, some .int, ⟨"EveryHand", "paid", "(III)I"⟩, rm 6)
abbrev mE_leftIfAcquainted : MI := (prog_1_method_52_code, 5, some .int, ⟨"EveryHand", "leftIfAcquainted", "(III)I"⟩, rm 6)
abbrev mE_friend : MI := (prog_1_method_25_code, 7, some .int, ⟨"EveryHand", "friend", "(I)I"⟩, rm 7)
abbrev mE_heir : MI := (prog_1_method_26_code, 7, some .int, ⟨"EveryHand", "heir", "(II)I"⟩, rm 6)
abbrev mE_least : MI := (prog_1_method_27_code, 5, some .int, ⟨"EveryHand", "least", "()I"⟩, rm 6)
abbrev mT_allSilver : MI := (prog_4_method_12_code, 3, some .int, ⟨"EveryHand$Town", "allSilver", "()I"⟩, rm 1)
abbrev mT_acquaintances : MI := (prog_4_method_11_code, 3, some .int, ⟨"EveryHand$Town", "acquaintances", "()I"⟩, rm 2)
abbrev mE_leftOfAll : MI := (prog_1_method_53_code, 3, some .int, ⟨"EveryHand", "leftOfAll", "()I"⟩, rm 6)
abbrev mE_all : MI := (prog_1_method_28_code, 2, some .int, ⟨"EveryHand", "all", "(I)I"⟩, rm 7)
abbrev mE_seed : MI := (prog_1_method_29_code, 3, some .int, ⟨"EveryHand", "seed", "(I)I"⟩, rm 1)
abbrev mE_prove : MI := (prog_1_method_30_code, 6, some .int, ⟨"EveryHand", "prove", "(I)I"⟩, rm 6)
abbrev mE_isRowPart : MI := (prog_1_method_50_code, 3, some .boolean, ⟨"EveryHand", "isRowPart", "(II)Z"⟩, rm 1)
abbrev mE_rowOf : MI := (prog_1_method_31_code, 3, some .int, ⟨"EveryHand", "rowOf", "(II)I"⟩, rm 2)
abbrev mE_alterRow : MI := (prog_1_method_32_code, 5, some .int, ⟨"EveryHand", "alterRow", "(III)I"⟩, rm 2)
abbrev mE_judge : MI := (prog_1_method_33_code, 6, some .int, ⟨"EveryHand", "judge", "(I)I"⟩, rm 6)
abbrev mH_hasSheet : MI := (prog_3_method_2_code, 2, some .boolean, ⟨"EveryHand$Host", "hasSheet", "(I)Z"⟩, rm 1)
abbrev mH_refusalAs : MI := (prog_3_method_5_code, 3, some .int, ⟨"EveryHand$Host", "refusalAs", "(II)I"⟩, rm 1)
abbrev mE_ranks : MI := (prog_1_method_34_code, 7, some .int, ⟨"EveryHand", "ranks", "(IIII)I"⟩, rm 2)
abbrev mH_lay : MI := (prog_3_method_4_code, 5, none, ⟨"EveryHand$Host", "lay", "(III)V"⟩, rm 1)
abbrev mE_sheet : MI := (prog_1_method_35_code, 4, some .int, ⟨"EveryHand", "sheet", "(III)I"⟩, rm 2)
abbrev mH_narrowed : MI := (prog_3_method_6_code, 3, some .int, ⟨"EveryHand$Host", "narrowed", "(II)I"⟩, rm 1)
abbrev mE_put : MI := (prog_1_method_36_code, 4, some .int, ⟨"EveryHand", "put", "(III)I"⟩, rm 2)
abbrev mE_item : MI := (prog_1_method_37_code, 5, some .int, ⟨"EveryHand", "item", "(III)I"⟩, rm 2)
abbrev mH_hasShelf : MI := (prog_3_method_3_code, 2, some .boolean, ⟨"EveryHand$Host", "hasShelf", "(I)Z"⟩, rm 1)
abbrev mH_holdCoin : MI := (prog_3_method_7_code, 3, none, ⟨"EveryHand$Host", "holdCoin", "(II)V"⟩, rm 1)
abbrev mH_holdRow : MI := (prog_3_method_8_code, 3, none, ⟨"EveryHand$Host", "holdRow", "(II)V"⟩, rm 1)
abbrev mE_shelf : MI := (prog_1_method_38_code, 4, some .int, ⟨"EveryHand", "shelf", "(III)I"⟩, rm 2)
abbrev mE_coinOnShelf : MI := (prog_1_method_55_code, 3, some .int, ⟨"EveryHand", "coinOnShelf", "(I)I"⟩, rm 2)
abbrev mE_isUnder : MI := (prog_1_method_49_code, 4, some .boolean, ⟨"EveryHand", "isUnder", "(II)Z"⟩, rm 1)
abbrev mE_taken : MI := (prog_1_method_39_code, 5, some .int, ⟨"EveryHand", "taken", "(II)I"⟩, rm 3)
abbrev mA_bodyOf : MI := (prog_2_method_4_code, 4, some .int, ⟨"EveryHand$Acts", "bodyOf", "(II)I"⟩, rm 1)
abbrev mA_note : MI := (prog_2_method_6_code, 2, none, ⟨"EveryHand$Acts", "note", "(I)V"⟩, rm 1)
abbrev mA_share : MI := (prog_2_method_5_code, 3, some .int, ⟨"EveryHand$Acts", "share", "(I)I"⟩, rm 1)
abbrev mA_perform (n : Nat) : MI := (prog_2_method_3_code, 7, some .int, ⟨"EveryHand$Acts", "perform", "(IIII)I"⟩, rm (2 + n))
abbrev mA_start : MI := (prog_2_method_2_code, 7, some .int, ⟨"EveryHand$Acts", "start", "(IIIII)I"⟩, rm 33)
abbrev mE_act : MI := (prog_1_method_40_code, 5, some .int, ⟨"EveryHand", "act", "(III)I"⟩, rm 34)
abbrev mE_trace : MI := (prog_1_method_41_code, 2, some .int, ⟨"EveryHand", "trace", "(I)I"⟩, rm 1)
abbrev mE_many : MI := (prog_1_method_42_code, 2, some .int, ⟨"EveryHand", "many", "(I)I"⟩, rm 1)
abbrev mT_become : MI := (prog_4_method_2_code, 2, none, ⟨"EveryHand$Town", "become", "(LEveryHand$Town;)V"⟩, rm 2)
abbrev mE_keep : MI := (prog_1_method_43_code, 1, some .int, ⟨"EveryHand", "keep", "()I"⟩, rm 3)
abbrev mE_again : MI := (prog_1_method_44_code, 1, some .int, ⟨"EveryHand", "again", "()I"⟩, rm 3)
abbrev mM_in : MI := (prog_8_method_2_code, 3, some .boolean, ⟨"EveryHandModel", "in", "(III)Z"⟩, rm 1)
abbrev mM_feed : MI := (prog_8_method_10_code, 5, some .int, ⟨"EveryHandModel", "feed", "(JI)I"⟩, rm 2)
abbrev mM_byteAt : MI := (prog_8_method_11_code, 2, some .int, ⟨"EveryHandModel", "byteAt", "(I)I"⟩, rm 1)
abbrev mM_isLetter : MI := (prog_8_method_12_code, 1, some .boolean, ⟨"EveryHandModel", "isLetter", "(I)Z"⟩, rm 2)
abbrev mM_isDigit : MI := (prog_8_method_13_code, 1, some .boolean, ⟨"EveryHandModel", "isDigit", "(I)Z"⟩, rm 2)
abbrev mM_advance : MI := (prog_8_method_14_code, 2, none, ⟨"EveryHandModel", "advance", "()V"⟩, rm 3)
abbrev mM_isWord : MI := (prog_8_method_15_code, 3, some .boolean, ⟨"EveryHandModel", "isWord", "(J)Z"⟩, rm 1)
abbrev mM_wantNumber : MI := (prog_8_method_18_code, 4, some .int, ⟨"EveryHandModel", "wantNumber", "(II)I"⟩, rm 4)
abbrev mM_isMark : MI := (prog_8_method_16_code, 2, some .boolean, ⟨"EveryHandModel", "isMark", "(I)Z"⟩, rm 1)
abbrev mM_wantEnd : MI := (prog_8_method_19_code, 1, none, ⟨"EveryHandModel", "wantEnd", "()V"⟩, rm 4)
abbrev mM_wantPerson : MI := (prog_8_method_20_code, 2, none, ⟨"EveryHandModel", "wantPerson", "()V"⟩, rm 5)
abbrev mM_wantKnow : MI := (prog_8_method_21_code, 3, none, ⟨"EveryHandModel", "wantKnow", "()V"⟩, rm 5)
abbrev mM_kindHere : MI := (prog_8_method_17_code, 1, some .int, ⟨"EveryHandModel", "kindHere", "()I"⟩, rm 2)
abbrev mM_wantCoin : MI := (prog_8_method_22_code, 7, none, ⟨"EveryHandModel", "wantCoin", "(I)V"⟩, rm 5)
abbrev mM_town : MI := (prog_8_method_23_code, 2, some .int, ⟨"EveryHandModel", "town", "()I"⟩, rm 6)
abbrev mM_person : MI := (prog_8_method_24_code, 2, some .int, ⟨"EveryHandModel", "person", "(I)I"⟩, rm 2)
abbrev mM_isPerson : MI := (prog_8_method_3_code, 2, some .boolean, ⟨"EveryHandModel", "isPerson", "(I)Z"⟩, rm 2)
abbrev mM_its : MI := (prog_8_method_9_code, 3, some .int, ⟨"EveryHandModel", "its", "(II)I"⟩, rm 1)
abbrev mM_heldBy : MI := (prog_8_method_26_code, 4, some .int, ⟨"EveryHandModel", "heldBy", "(I)I"⟩, rm 2)
abbrev mM_has : MI := (prog_8_method_6_code, 2, some .boolean, ⟨"EveryHandModel", "has", "(II)Z"⟩, rm 1)
abbrev mM_worth : MI := (prog_8_method_25_code, 3, some .int, ⟨"EveryHandModel", "worth", "(I)I"⟩, rm 2)
abbrev mM_worthOf : MI := (prog_8_method_27_code, 4, some .int, ⟨"EveryHandModel", "worthOf", "(I)I"⟩, rm 3)
abbrev mM_personOf : MI := (prog_8_method_28_code, 3, some .int, ⟨"EveryHandModel", "personOf", "(II)I"⟩, rm 4)
abbrev mM_rank : MI := (prog_8_method_29_code, 4, some .int, ⟨"EveryHandModel", "rank", "(II)I"⟩, rm 3)
abbrev mM_swapsKnow : MI := (prog_8_method_30_code, 3, none, ⟨"EveryHandModel", "swapsKnow", "(II)V"⟩, rm 1)
abbrev mM_know : MI := (prog_8_method_31_code, 4, some .int, ⟨"EveryHandModel", "know", "(IIZ)I"⟩, rm 3)
abbrev mM_coin : MI := (prog_8_method_32_code, 4, some .int, ⟨"EveryHandModel", "coin", "(III)I"⟩, rm 3)
abbrev mM_isCoin : MI := (prog_8_method_4_code, 2, some .boolean, ⟨"EveryHandModel", "isCoin", "(I)Z"⟩, rm 2)
abbrev mM_mayBe : MI := (prog_8_method_33_code, 6, some .boolean, ⟨"EveryHandModel", "mayBe", "(IIII)Z"⟩, rm 2)
abbrev mM_mayNow : MI := (prog_8_method_34_code, 3, some .boolean, ⟨"EveryHandModel", "mayNow", "(II)Z"⟩, rm 3)
abbrev mM_mayAll : MI := (prog_8_method_35_code, 4, some .int, ⟨"EveryHandModel", "mayAll", "(I)I"⟩, rm 4)
abbrev mM_coinOf : MI := (prog_8_method_36_code, 3, some .int, ⟨"EveryHandModel", "coinOf", "(II)I"⟩, rm 5)
abbrev mM_stamp : MI := (prog_8_method_37_code, 5, some .int, ⟨"EveryHandModel", "stamp", "(III)I"⟩, rm 3)
abbrev mM_ones : MI := (prog_8_method_7_code, 3, some .int, ⟨"EveryHandModel", "ones", "(I)I"⟩, rm 1)
abbrev mM_clean : MI := (prog_8_method_38_code, 3, some .int, ⟨"EveryHandModel", "clean", "(I)I"⟩, rm 3)
abbrev mM_may : MI := (prog_8_method_39_code, 3, some .int, ⟨"EveryHandModel", "may", "(II)I"⟩, rm 4)
abbrev mM_everybody : MI := (prog_8_method_8_code, 1, some .int, ⟨"EveryHandModel", "everybody", "()I"⟩, rm 1)
abbrev mM_goes : MI := (prog_8_method_40_code, 3, none, ⟨"EveryHandModel", "goes", "(I)V"⟩, rm 1)
abbrev mM_gives : MI := (prog_8_method_41_code, 4, some .boolean, ⟨"EveryHandModel", "gives", "(II)Z"⟩, rm 3)
abbrev mM_give : MI := (prog_8_method_42_code, 3, some .int, ⟨"EveryHandModel", "give", "(II)I"⟩, rm 4)
abbrev mM_lot : MI := (prog_8_method_43_code, 5, some .int, ⟨"EveryHandModel", "lot", "(I)I"⟩, rm 5)
abbrev mM_firstFree : MI := (prog_8_method_44_code, 2, some .int, ⟨"EveryHandModel", "firstFree", "()I"⟩, rm 5)
abbrev mM_lots : MI := (prog_8_method_45_code, 5, some .int, ⟨"EveryHandModel", "lots", "(I)I"⟩, rm 6)
abbrev mM_melt : MI := (prog_8_method_46_code, 3, some .int, ⟨"EveryHandModel", "melt", "(I)I"⟩, rm 3)
abbrev mM_findOne : MI := (prog_8_method_47_code, 8, none, ⟨"EveryHandModel", "findOne", "(III)V"⟩, rm 3)
abbrev mM_findAll : MI := (prog_8_method_48_code, 4, none, ⟨"EveryHandModel", "findAll", "(I)V"⟩, rm 4)
abbrev mM_placeOf : MI := (prog_8_method_49_code, 2, some .int, ⟨"EveryHandModel", "placeOf", "(I)I"⟩, rm 2)
abbrev mM_leftOf : MI := (prog_8_method_50_code, 2, some .int, ⟨"EveryHandModel", "leftOf", "(I)I"⟩, rm 5)
abbrev mM_left : MI := (prog_8_method_51_code, 2, some .int, ⟨"EveryHandModel", "left", "(I)I"⟩, rm 6)
abbrev mM_through : MI := (prog_8_method_52_code, 2, some .int, ⟨"EveryHandModel", "through", "(I)I"⟩, rm 5)
abbrev mM_ways : MI := (prog_8_method_53_code, 2, some .int, ⟨"EveryHandModel", "ways", "(I)I"⟩, rm 5)
abbrev mM_last : MI := (prog_8_method_54_code, 2, some .int, ⟨"EveryHandModel", "last", "(I)I"⟩, rm 5)
abbrev mM_findRow : MI := (prog_8_method_55_code, 6, none, ⟨"EveryHandModel", "findRow", "(I)V"⟩, rm 6)
abbrev mM_row : MI := (prog_8_method_56_code, 3, some .int, ⟨"EveryHandModel", "row", "(II)I"⟩, rm 7)
abbrev mM_stuck : MI := (prog_8_method_57_code, 3, some .int, ⟨"EveryHandModel", "stuck", "()I"⟩, rm 5)
abbrev mM_best : MI := (prog_8_method_58_code, 8, some .int, ⟨"EveryHandModel", "best", "(II)I"⟩, rm 5)
abbrev mM_given : MI := (prog_8_method_59_code, 5, some .int, ⟨"EveryHandModel", "given", "(II)I"⟩, rm 4)
abbrev mM_paid : MI := (prog_8_method_60_code, 7, some .int, ⟨"EveryHandModel", "paid", "(III)I"⟩, rm 5)
abbrev mM_friend : MI := (prog_8_method_61_code, 7, some .int, ⟨"EveryHandModel", "friend", "(I)I"⟩, rm 6)
abbrev mM_isSide : MI := (prog_8_method_5_code, 1, some .boolean, ⟨"EveryHandModel", "isSide", "(I)Z"⟩, rm 2)
abbrev mM_heir : MI := (prog_8_method_62_code, 7, some .int, ⟨"EveryHandModel", "heir", "(II)I"⟩, rm 5)
abbrev mM_least : MI := (prog_8_method_63_code, 5, some .int, ⟨"EveryHandModel", "least", "()I"⟩, rm 6)
abbrev mM_all : MI := (prog_8_method_64_code, 4, some .int, ⟨"EveryHandModel", "all", "(I)I"⟩, rm 6)
abbrev mM_seed : MI := (prog_8_method_65_code, 3, some .int, ⟨"EveryHandModel", "seed", "(I)I"⟩, rm 1)
abbrev mM_prove : MI := (prog_8_method_66_code, 3, some .int, ⟨"EveryHandModel", "prove", "(I)I"⟩, rm 7)
abbrev mM_isRow : MI := (prog_8_method_67_code, 3, some .boolean, ⟨"EveryHandModel", "isRow", "(II)Z"⟩, rm 2)
abbrev mM_rowOf : MI := (prog_8_method_68_code, 3, some .int, ⟨"EveryHandModel", "rowOf", "(II)I"⟩, rm 3)
abbrev mM_alterRow : MI := (prog_8_method_69_code, 5, some .int, ⟨"EveryHandModel", "alterRow", "(III)I"⟩, rm 3)
abbrev mM_judge : MI := (prog_8_method_70_code, 7, some .int, ⟨"EveryHandModel", "judge", "(I)I"⟩, rm 5)
abbrev mM_isShelf : MI := (prog_8_method_72_code, 1, some .boolean, ⟨"EveryHandModel", "isShelf", "(I)Z"⟩, rm 2)
abbrev mM_lacksSort : MI := (prog_8_method_75_code, 3, some .int, ⟨"EveryHandModel", "lacksSort", "(II)I"⟩, rm 1)
abbrev mM_ranks : MI := (prog_8_method_71_code, 9, some .int, ⟨"EveryHandModel", "ranks", "(IIII)I"⟩, rm 3)
abbrev mM_sheet : MI := (prog_8_method_73_code, 5, some .int, ⟨"EveryHandModel", "sheet", "(III)I"⟩, rm 3)
abbrev mM_put : MI := (prog_8_method_74_code, 4, some .int, ⟨"EveryHandModel", "put", "(III)I"⟩, rm 3)
abbrev mM_item : MI := (prog_8_method_76_code, 5, some .int, ⟨"EveryHandModel", "item", "(III)I"⟩, rm 3)
abbrev mM_isHeld : MI := (prog_8_method_77_code, 3, some .boolean, ⟨"EveryHandModel", "isHeld", "(II)Z"⟩, rm 3)
abbrev mM_shelf : MI := (prog_8_method_78_code, 4, some .int, ⟨"EveryHandModel", "shelf", "(III)I"⟩, rm 4)
abbrev mM_kindOn : MI := (prog_8_method_79_code, 2, some .int, ⟨"EveryHandModel", "kindOn", "(I)I"⟩, rm 3)
abbrev mM_isUnder : MI := (prog_8_method_80_code, 2, some .boolean, ⟨"EveryHandModel", "isUnder", "(II)Z"⟩, rm 1)
abbrev mM_taken : MI := (prog_8_method_81_code, 4, some .int, ⟨"EveryHandModel", "taken", "(II)I"⟩, rm 4)
abbrev mM_ran : MI := (prog_8_method_82_code, 2, none, ⟨"EveryHandModel", "ran", "(I)V"⟩, rm 1)
abbrev mM_plainRings : MI := (prog_8_method_83_code, 2, some .int, ⟨"EveryHandModel", "plainRings", "(I)I"⟩, rm 2)
abbrev mM_crownRings : MI := (prog_8_method_84_code, 2, some .int, ⟨"EveryHandModel", "crownRings", "(I)I"⟩, rm 3)
abbrev mM_ringsIt : MI := (prog_8_method_85_code, 2, some .int, ⟨"EveryHandModel", "ringsIt", "(I)I"⟩, rm 4)
abbrev mM_plainWeighs : MI := (prog_8_method_86_code, 2, some .int, ⟨"EveryHandModel", "plainWeighs", "(I)I"⟩, rm 5)
abbrev mM_weighsIt : MI := (prog_8_method_87_code, 3, some .int, ⟨"EveryHandModel", "weighsIt", "(I)I"⟩, rm 6)
abbrev mM_plainShares : MI := (prog_8_method_88_code, 2, some .int, ⟨"EveryHandModel", "plainShares", "(I)I"⟩, rm 2)
abbrev mM_sharesIt : MI := (prog_8_method_89_code, 3, some .int, ⟨"EveryHandModel", "sharesIt", "(I)I"⟩, rm 5)
abbrev mM_plainTells : MI := (prog_8_method_90_code, 2, some .int, ⟨"EveryHandModel", "plainTells", "(I)I"⟩, rm 7)
abbrev mM_tellsIt : MI := (prog_8_method_91_code, 3, some .int, ⟨"EveryHandModel", "tellsIt", "(I)I"⟩, rm 8)
abbrev mM_act : MI := (prog_8_method_92_code, 6, some .int, ⟨"EveryHandModel", "act", "(III)I"⟩, rm 9)
abbrev mM_trace : MI := (prog_8_method_93_code, 2, some .int, ⟨"EveryHandModel", "trace", "(I)I"⟩, rm 2)
abbrev mM_many : MI := (prog_8_method_94_code, 2, some .int, ⟨"EveryHandModel", "many", "(I)I"⟩, rm 1)
abbrev mM_moveRow : MI := (prog_8_method_95_code, 5, none, ⟨"EveryHandModel", "moveRow", "([IIZ)V"⟩, rm 1)
abbrev mM_moveAll : MI := (prog_8_method_96_code, 2, none, ⟨"EveryHandModel", "moveAll", "(Z)V"⟩, rm 2)
abbrev mM_keep : MI := (prog_8_method_97_code, 1, some .int, ⟨"EveryHandModel", "keep", "()I"⟩, rm 3)
abbrev mM_again : MI := (prog_8_method_98_code, 1, some .int, ⟨"EveryHandModel", "again", "()I"⟩, rm 3)
abbrev mJS_length : MI := (prog_11_method_54_code, 1, some .int, ⟨"java/lang/String", "length", "()I"⟩, rm 2)
abbrev mJS_charAt : MI := (prog_11_method_56_code, 2, some .char, ⟨"java/lang/String", "charAt", "(I)C"⟩, rm 4)
abbrev mJS_coder : MI := (prog_11_method_152_code, 1, some .byte, ⟨"java/lang/String", "coder", "()B"⟩, rm 1)
abbrev mJS_isLatin1 : MI := (prog_11_method_154_code, 1, some .boolean, ⟨"java/lang/String", "isLatin1", "()Z"⟩, rm 1)
abbrev mJL_charAt : MI := (prog_12_method_2_code, 2, some .char, ⟨"java/lang/StringLatin1", "charAt", "([BI)C"⟩, rm 3)
abbrev mJS_checkIndex : MI := (prog_11_method_155_code, 2, none, ⟨"java/lang/String", "checkIndex", "(II)V"⟩, rm 2)
abbrev mJP_checkIndex : MI := (prog_15_method_11_code, 3, some .int, ⟨"jdk/internal/util/Preconditions", "checkIndex", "(IILjava/util/function/BiFunction;)I"⟩, rm 1)
theorem myE_feed : MYV (mE_feed) := ⟨gw 274 (by decide +kernel) (by decide +kernel), gw 275 (by decide +kernel) (by decide +kernel), gw 70 (by decide +kernel) (by decide +kernel), gw 276 (by decide +kernel) (by decide +kernel)⟩
theorem myT_empty : MYV (mT_empty) := ⟨gw 286 (by decide +kernel) (by decide +kernel), gw 287 (by decide +kernel) (by decide +kernel), gw 71 (by decide +kernel) (by decide +kernel), gw 288 (by decide +kernel) (by decide +kernel)⟩
theorem myX_isLetter : MYV (mX_isLetter) := ⟨gw 298 (by decide +kernel) (by decide +kernel), gw 1 (by decide +kernel) (by decide +kernel), gw 72 (by decide +kernel) (by decide +kernel), gw 299 (by decide +kernel) (by decide +kernel)⟩
theorem myX_isDigit : MYV (mX_isDigit) := ⟨gw 302 (by decide +kernel) (by decide +kernel), gw 2 (by decide +kernel) (by decide +kernel), gw 72 (by decide +kernel) (by decide +kernel), gw 303 (by decide +kernel) (by decide +kernel)⟩
theorem myX_step : MYV (mX_step) := ⟨gw 291 (by decide +kernel) (by decide +kernel), gw 0 (by decide +kernel) (by decide +kernel), gw 72 (by decide +kernel) (by decide +kernel), gw 292 (by decide +kernel) (by decide +kernel)⟩
theorem myX_reads : MYV (mX_reads) := ⟨gw 311 (by decide +kernel) (by decide +kernel), gw 4 (by decide +kernel) (by decide +kernel), gw 72 (by decide +kernel) (by decide +kernel), gw 312 (by decide +kernel) (by decide +kernel)⟩
theorem myX_readNumber : MYV (mX_readNumber) := ⟨gw 367 (by decide +kernel) (by decide +kernel), gw 6 (by decide +kernel) (by decide +kernel), gw 72 (by decide +kernel) (by decide +kernel), gw 368 (by decide +kernel) (by decide +kernel)⟩
theorem myT_addPerson : MYV (mT_addPerson) := ⟨gw 370 (by decide +kernel) (by decide +kernel), gw 371 (by decide +kernel) (by decide +kernel), gw 71 (by decide +kernel) (by decide +kernel), gw 372 (by decide +kernel) (by decide +kernel)⟩
theorem myX_readEnd : MYV (mX_readEnd) := ⟨gw 375 (by decide +kernel) (by decide +kernel), gw 7 (by decide +kernel) (by decide +kernel), gw 72 (by decide +kernel) (by decide +kernel), gw 376 (by decide +kernel) (by decide +kernel)⟩
theorem myX_readPerson : MYV (mX_readPerson) := ⟨gw 363 (by decide +kernel) (by decide +kernel), gw 5 (by decide +kernel) (by decide +kernel), gw 72 (by decide +kernel) (by decide +kernel), gw 364 (by decide +kernel) (by decide +kernel)⟩
theorem myT_acquaint : MYV (mT_acquaint) := ⟨gw 384 (by decide +kernel) (by decide +kernel), gw 385 (by decide +kernel) (by decide +kernel), gw 71 (by decide +kernel) (by decide +kernel), gw 386 (by decide +kernel) (by decide +kernel)⟩
theorem myX_readKnow : MYV (mX_readKnow) := ⟨gw 381 (by decide +kernel) (by decide +kernel), gw 8 (by decide +kernel) (by decide +kernel), gw 72 (by decide +kernel) (by decide +kernel), gw 382 (by decide +kernel) (by decide +kernel)⟩
theorem myX_kindRead : MYV (mX_kindRead) := ⟨gw 389 (by decide +kernel) (by decide +kernel), gw 9 (by decide +kernel) (by decide +kernel), gw 72 (by decide +kernel) (by decide +kernel), gw 390 (by decide +kernel) (by decide +kernel)⟩
theorem myT_addCoin : MYV (mT_addCoin) := ⟨gw 403 (by decide +kernel) (by decide +kernel), gw 404 (by decide +kernel) (by decide +kernel), gw 71 (by decide +kernel) (by decide +kernel), gw 405 (by decide +kernel) (by decide +kernel)⟩
theorem myX_readHad : MYV (mX_readHad) := ⟨gw 409 (by decide +kernel) (by decide +kernel), gw 11 (by decide +kernel) (by decide +kernel), gw 72 (by decide +kernel) (by decide +kernel), gw 410 (by decide +kernel) (by decide +kernel)⟩
theorem myX_readCoin : MYV (mX_readCoin) := ⟨gw 399 (by decide +kernel) (by decide +kernel), gw 10 (by decide +kernel) (by decide +kernel), gw 72 (by decide +kernel) (by decide +kernel), gw 400 (by decide +kernel) (by decide +kernel)⟩
theorem myX_readStatement : MYV (mX_readStatement) := ⟨gw 306 (by decide +kernel) (by decide +kernel), gw 3 (by decide +kernel) (by decide +kernel), gw 72 (by decide +kernel) (by decide +kernel), gw 307 (by decide +kernel) (by decide +kernel)⟩
theorem myX_readInto : MYV (mX_readInto) := ⟨gw 282 (by decide +kernel) (by decide +kernel), gw 283 (by decide +kernel) (by decide +kernel), gw 72 (by decide +kernel) (by decide +kernel), gw 284 (by decide +kernel) (by decide +kernel)⟩
theorem myE_town : MYV (mE_town) := ⟨gw 278 (by decide +kernel) (by decide +kernel), gw 279 (by decide +kernel) (by decide +kernel), gw 70 (by decide +kernel) (by decide +kernel), gw 280 (by decide +kernel) (by decide +kernel)⟩
theorem myE_isRank : MYS (mE_isRank) := ⟨gw 418 (by decide +kernel) (by decide +kernel), gw 70 (by decide +kernel) (by decide +kernel), gw 419 (by decide +kernel) (by decide +kernel)⟩
theorem myE_person : MYV (mE_person) := ⟨gw 414 (by decide +kernel) (by decide +kernel), gw 415 (by decide +kernel) (by decide +kernel), gw 70 (by decide +kernel) (by decide +kernel), gw 416 (by decide +kernel) (by decide +kernel)⟩
theorem myT_hasPerson : MYV (mT_hasPerson) := ⟨gw 426 (by decide +kernel) (by decide +kernel), gw 427 (by decide +kernel) (by decide +kernel), gw 71 (by decide +kernel) (by decide +kernel), gw 428 (by decide +kernel) (by decide +kernel)⟩
theorem myT_purse : MYV (mT_purse) := ⟨gw 434 (by decide +kernel) (by decide +kernel), gw 435 (by decide +kernel) (by decide +kernel), gw 71 (by decide +kernel) (by decide +kernel), gw 436 (by decide +kernel) (by decide +kernel)⟩
theorem myE_holds : MYS (mE_holds) := ⟨gw 442 (by decide +kernel) (by decide +kernel), gw 70 (by decide +kernel) (by decide +kernel), gw 443 (by decide +kernel) (by decide +kernel)⟩
theorem myT_worth : MYV (mT_worth) := ⟨gw 445 (by decide +kernel) (by decide +kernel), gw 446 (by decide +kernel) (by decide +kernel), gw 71 (by decide +kernel) (by decide +kernel), gw 447 (by decide +kernel) (by decide +kernel)⟩
theorem myT_worthOfAll : MYV (mT_worthOfAll) := ⟨gw 438 (by decide +kernel) (by decide +kernel), gw 439 (by decide +kernel) (by decide +kernel), gw 71 (by decide +kernel) (by decide +kernel), gw 440 (by decide +kernel) (by decide +kernel)⟩
theorem myT_riches : MYV (mT_riches) := ⟨gw 430 (by decide +kernel) (by decide +kernel), gw 431 (by decide +kernel) (by decide +kernel), gw 71 (by decide +kernel) (by decide +kernel), gw 432 (by decide +kernel) (by decide +kernel)⟩
theorem myE_personOf : MYV (mE_personOf) := ⟨gw 422 (by decide +kernel) (by decide +kernel), gw 423 (by decide +kernel) (by decide +kernel), gw 70 (by decide +kernel) (by decide +kernel), gw 424 (by decide +kernel) (by decide +kernel)⟩
theorem myE_rank : MYV (mE_rank) := ⟨gw 450 (by decide +kernel) (by decide +kernel), gw 451 (by decide +kernel) (by decide +kernel), gw 70 (by decide +kernel) (by decide +kernel), gw 452 (by decide +kernel) (by decide +kernel)⟩
theorem myT_areAcquainted : MYV (mT_areAcquainted) := ⟨gw 458 (by decide +kernel) (by decide +kernel), gw 459 (by decide +kernel) (by decide +kernel), gw 71 (by decide +kernel) (by decide +kernel), gw 460 (by decide +kernel) (by decide +kernel)⟩
theorem myE_know : MYV (mE_know) := ⟨gw 454 (by decide +kernel) (by decide +kernel), gw 455 (by decide +kernel) (by decide +kernel), gw 70 (by decide +kernel) (by decide +kernel), gw 456 (by decide +kernel) (by decide +kernel)⟩
theorem myE_isKind : MYS (mE_isKind) := ⟨gw 467 (by decide +kernel) (by decide +kernel), gw 70 (by decide +kernel) (by decide +kernel), gw 468 (by decide +kernel) (by decide +kernel)⟩
theorem myE_isA : MYS (mE_isA) := ⟨gw 470 (by decide +kernel) (by decide +kernel), gw 70 (by decide +kernel) (by decide +kernel), gw 471 (by decide +kernel) (by decide +kernel)⟩
theorem myE_coin : MYV (mE_coin) := ⟨gw 463 (by decide +kernel) (by decide +kernel), gw 464 (by decide +kernel) (by decide +kernel), gw 70 (by decide +kernel) (by decide +kernel), gw 465 (by decide +kernel) (by decide +kernel)⟩
theorem myT_hasCoin : MYV (mT_hasCoin) := ⟨gw 478 (by decide +kernel) (by decide +kernel), gw 479 (by decide +kernel) (by decide +kernel), gw 71 (by decide +kernel) (by decide +kernel), gw 480 (by decide +kernel) (by decide +kernel)⟩
theorem myT_kindAllows : MYV (mT_kindAllows) := ⟨gw 491 (by decide +kernel) (by decide +kernel), gw 492 (by decide +kernel) (by decide +kernel), gw 71 (by decide +kernel) (by decide +kernel), gw 493 (by decide +kernel) (by decide +kernel)⟩
theorem myT_reach : MYV (mT_reach) := ⟨gw 487 (by decide +kernel) (by decide +kernel), gw 488 (by decide +kernel) (by decide +kernel), gw 71 (by decide +kernel) (by decide +kernel), gw 489 (by decide +kernel) (by decide +kernel)⟩
theorem myT_takers : MYV (mT_takers) := ⟨gw 483 (by decide +kernel) (by decide +kernel), gw 484 (by decide +kernel) (by decide +kernel), gw 71 (by decide +kernel) (by decide +kernel), gw 485 (by decide +kernel) (by decide +kernel)⟩
theorem myE_coinOf : MYV (mE_coinOf) := ⟨gw 474 (by decide +kernel) (by decide +kernel), gw 475 (by decide +kernel) (by decide +kernel), gw 70 (by decide +kernel) (by decide +kernel), gw 476 (by decide +kernel) (by decide +kernel)⟩
theorem myE_stamp : MYV (mE_stamp) := ⟨gw 495 (by decide +kernel) (by decide +kernel), gw 496 (by decide +kernel) (by decide +kernel), gw 70 (by decide +kernel) (by decide +kernel), gw 497 (by decide +kernel) (by decide +kernel)⟩
theorem myJI_bitCount : MYS (mJI_bitCount) := ⟨gw 503 (by decide +kernel) (by decide +kernel), gw 82 (by decide +kernel) (by decide +kernel), gw 504 (by decide +kernel) (by decide +kernel)⟩
theorem myE_clean : MYV (mE_clean) := ⟨gw 499 (by decide +kernel) (by decide +kernel), gw 500 (by decide +kernel) (by decide +kernel), gw 70 (by decide +kernel) (by decide +kernel), gw 501 (by decide +kernel) (by decide +kernel)⟩
theorem myE_may : MYV (mE_may) := ⟨gw 509 (by decide +kernel) (by decide +kernel), gw 510 (by decide +kernel) (by decide +kernel), gw 70 (by decide +kernel) (by decide +kernel), gw 511 (by decide +kernel) (by decide +kernel)⟩
theorem myT_removeCoin : MYV (mT_removeCoin) := ⟨gw 522 (by decide +kernel) (by decide +kernel), gw 523 (by decide +kernel) (by decide +kernel), gw 71 (by decide +kernel) (by decide +kernel), gw 524 (by decide +kernel) (by decide +kernel)⟩
theorem myT_hand : MYV (mT_hand) := ⟨gw 518 (by decide +kernel) (by decide +kernel), gw 519 (by decide +kernel) (by decide +kernel), gw 71 (by decide +kernel) (by decide +kernel), gw 520 (by decide +kernel) (by decide +kernel)⟩
theorem myE_give : MYV (mE_give) := ⟨gw 514 (by decide +kernel) (by decide +kernel), gw 515 (by decide +kernel) (by decide +kernel), gw 70 (by decide +kernel) (by decide +kernel), gw 516 (by decide +kernel) (by decide +kernel)⟩
theorem myT_draw : MYV (mT_draw) := ⟨gw 530 (by decide +kernel) (by decide +kernel), gw 531 (by decide +kernel) (by decide +kernel), gw 71 (by decide +kernel) (by decide +kernel), gw 532 (by decide +kernel) (by decide +kernel)⟩
theorem myE_lot : MYV (mE_lot) := ⟨gw 526 (by decide +kernel) (by decide +kernel), gw 527 (by decide +kernel) (by decide +kernel), gw 70 (by decide +kernel) (by decide +kernel), gw 528 (by decide +kernel) (by decide +kernel)⟩
theorem myE_leastCoinToGive : MYV (mE_leastCoinToGive) := ⟨gw 541 (by decide +kernel) (by decide +kernel), gw 12 (by decide +kernel) (by decide +kernel), gw 70 (by decide +kernel) (by decide +kernel), gw 542 (by decide +kernel) (by decide +kernel)⟩
theorem myE_lots : MYV (mE_lots) := ⟨gw 536 (by decide +kernel) (by decide +kernel), gw 537 (by decide +kernel) (by decide +kernel), gw 70 (by decide +kernel) (by decide +kernel), gw 538 (by decide +kernel) (by decide +kernel)⟩
theorem myE_melt : MYV (mE_melt) := ⟨gw 544 (by decide +kernel) (by decide +kernel), gw 545 (by decide +kernel) (by decide +kernel), gw 70 (by decide +kernel) (by decide +kernel), gw 546 (by decide +kernel) (by decide +kernel)⟩
theorem myW_takers : MYV (mW_takers) := ⟨gw 571 (by decide +kernel) (by decide +kernel), gw 572 (by decide +kernel) (by decide +kernel), gw 73 (by decide +kernel) (by decide +kernel), gw 573 (by decide +kernel) (by decide +kernel)⟩
theorem myW_at : MYV (mW_at) := ⟨gw 575 (by decide +kernel) (by decide +kernel), gw 576 (by decide +kernel) (by decide +kernel), gw 73 (by decide +kernel) (by decide +kernel), gw 577 (by decide +kernel) (by decide +kernel)⟩
theorem myW_value : MYV (mW_value) := ⟨gw 568 (by decide +kernel) (by decide +kernel), gw 15 (by decide +kernel) (by decide +kernel), gw 73 (by decide +kernel) (by decide +kernel), gw 569 (by decide +kernel) (by decide +kernel)⟩
theorem myW_fill : MYV (mW_fill) := ⟨gw 563 (by decide +kernel) (by decide +kernel), gw 14 (by decide +kernel) (by decide +kernel), gw 73 (by decide +kernel) (by decide +kernel), gw 564 (by decide +kernel) (by decide +kernel)⟩
theorem myW_survey : MYV (mW_survey) := ⟨gw 557 (by decide +kernel) (by decide +kernel), gw 558 (by decide +kernel) (by decide +kernel), gw 73 (by decide +kernel) (by decide +kernel), gw 559 (by decide +kernel) (by decide +kernel)⟩
theorem myE_look : MYV (mE_look) := ⟨gw 554 (by decide +kernel) (by decide +kernel), gw 13 (by decide +kernel) (by decide +kernel), gw 70 (by decide +kernel) (by decide +kernel), gw 555 (by decide +kernel) (by decide +kernel)⟩
theorem myE_left : MYV (mE_left) := ⟨gw 549 (by decide +kernel) (by decide +kernel), gw 550 (by decide +kernel) (by decide +kernel), gw 70 (by decide +kernel) (by decide +kernel), gw 551 (by decide +kernel) (by decide +kernel)⟩
theorem myW_firstTaker : MYV (mW_firstTaker) := ⟨gw 587 (by decide +kernel) (by decide +kernel), gw 588 (by decide +kernel) (by decide +kernel), gw 73 (by decide +kernel) (by decide +kernel), gw 589 (by decide +kernel) (by decide +kernel)⟩
theorem myE_row : MYV (mE_row) := ⟨gw 583 (by decide +kernel) (by decide +kernel), gw 584 (by decide +kernel) (by decide +kernel), gw 70 (by decide +kernel) (by decide +kernel), gw 585 (by decide +kernel) (by decide +kernel)⟩
theorem myE_through : MYV (mE_through) := ⟨gw 591 (by decide +kernel) (by decide +kernel), gw 592 (by decide +kernel) (by decide +kernel), gw 70 (by decide +kernel) (by decide +kernel), gw 593 (by decide +kernel) (by decide +kernel)⟩
theorem myE_ways : MYV (mE_ways) := ⟨gw 595 (by decide +kernel) (by decide +kernel), gw 596 (by decide +kernel) (by decide +kernel), gw 70 (by decide +kernel) (by decide +kernel), gw 597 (by decide +kernel) (by decide +kernel)⟩
theorem myE_last : MYV (mE_last) := ⟨gw 599 (by decide +kernel) (by decide +kernel), gw 600 (by decide +kernel) (by decide +kernel), gw 70 (by decide +kernel) (by decide +kernel), gw 601 (by decide +kernel) (by decide +kernel)⟩
theorem myE_stuck : MYV (mE_stuck) := ⟨gw 603 (by decide +kernel) (by decide +kernel), gw 604 (by decide +kernel) (by decide +kernel), gw 70 (by decide +kernel) (by decide +kernel), gw 605 (by decide +kernel) (by decide +kernel)⟩
theorem myE_best : MYV (mE_best) := ⟨gw 607 (by decide +kernel) (by decide +kernel), gw 608 (by decide +kernel) (by decide +kernel), gw 70 (by decide +kernel) (by decide +kernel), gw 609 (by decide +kernel) (by decide +kernel)⟩
theorem myT_purseFor : MYV (mT_purseFor) := ⟨gw 615 (by decide +kernel) (by decide +kernel), gw 616 (by decide +kernel) (by decide +kernel), gw 71 (by decide +kernel) (by decide +kernel), gw 617 (by decide +kernel) (by decide +kernel)⟩
theorem myE_paid : MYV (mE_paid) := ⟨gw 611 (by decide +kernel) (by decide +kernel), gw 612 (by decide +kernel) (by decide +kernel), gw 70 (by decide +kernel) (by decide +kernel), gw 613 (by decide +kernel) (by decide +kernel)⟩
theorem myE_leftIfAcquainted : MYV (mE_leftIfAcquainted) := ⟨gw 626 (by decide +kernel) (by decide +kernel), gw 16 (by decide +kernel) (by decide +kernel), gw 70 (by decide +kernel) (by decide +kernel), gw 627 (by decide +kernel) (by decide +kernel)⟩
theorem myE_friend : MYV (mE_friend) := ⟨gw 621 (by decide +kernel) (by decide +kernel), gw 622 (by decide +kernel) (by decide +kernel), gw 70 (by decide +kernel) (by decide +kernel), gw 623 (by decide +kernel) (by decide +kernel)⟩
theorem myE_heir : MYV (mE_heir) := ⟨gw 629 (by decide +kernel) (by decide +kernel), gw 630 (by decide +kernel) (by decide +kernel), gw 70 (by decide +kernel) (by decide +kernel), gw 631 (by decide +kernel) (by decide +kernel)⟩
theorem myE_least : MYV (mE_least) := ⟨gw 633 (by decide +kernel) (by decide +kernel), gw 634 (by decide +kernel) (by decide +kernel), gw 70 (by decide +kernel) (by decide +kernel), gw 635 (by decide +kernel) (by decide +kernel)⟩
theorem myT_allSilver : MYV (mT_allSilver) := ⟨gw 641 (by decide +kernel) (by decide +kernel), gw 642 (by decide +kernel) (by decide +kernel), gw 71 (by decide +kernel) (by decide +kernel), gw 643 (by decide +kernel) (by decide +kernel)⟩
theorem myT_acquaintances : MYV (mT_acquaintances) := ⟨gw 645 (by decide +kernel) (by decide +kernel), gw 646 (by decide +kernel) (by decide +kernel), gw 71 (by decide +kernel) (by decide +kernel), gw 647 (by decide +kernel) (by decide +kernel)⟩
theorem myE_leftOfAll : MYV (mE_leftOfAll) := ⟨gw 650 (by decide +kernel) (by decide +kernel), gw 17 (by decide +kernel) (by decide +kernel), gw 70 (by decide +kernel) (by decide +kernel), gw 651 (by decide +kernel) (by decide +kernel)⟩
theorem myE_all : MYV (mE_all) := ⟨gw 637 (by decide +kernel) (by decide +kernel), gw 638 (by decide +kernel) (by decide +kernel), gw 70 (by decide +kernel) (by decide +kernel), gw 639 (by decide +kernel) (by decide +kernel)⟩
theorem myE_seed : MYV (mE_seed) := ⟨gw 653 (by decide +kernel) (by decide +kernel), gw 654 (by decide +kernel) (by decide +kernel), gw 70 (by decide +kernel) (by decide +kernel), gw 655 (by decide +kernel) (by decide +kernel)⟩
theorem myE_prove : MYV (mE_prove) := ⟨gw 657 (by decide +kernel) (by decide +kernel), gw 658 (by decide +kernel) (by decide +kernel), gw 70 (by decide +kernel) (by decide +kernel), gw 659 (by decide +kernel) (by decide +kernel)⟩
theorem myE_isRowPart : MYV (mE_isRowPart) := ⟨gw 666 (by decide +kernel) (by decide +kernel), gw 18 (by decide +kernel) (by decide +kernel), gw 70 (by decide +kernel) (by decide +kernel), gw 667 (by decide +kernel) (by decide +kernel)⟩
theorem myE_rowOf : MYV (mE_rowOf) := ⟨gw 661 (by decide +kernel) (by decide +kernel), gw 662 (by decide +kernel) (by decide +kernel), gw 70 (by decide +kernel) (by decide +kernel), gw 663 (by decide +kernel) (by decide +kernel)⟩
theorem myE_alterRow : MYV (mE_alterRow) := ⟨gw 669 (by decide +kernel) (by decide +kernel), gw 670 (by decide +kernel) (by decide +kernel), gw 70 (by decide +kernel) (by decide +kernel), gw 671 (by decide +kernel) (by decide +kernel)⟩
theorem myE_judge : MYV (mE_judge) := ⟨gw 673 (by decide +kernel) (by decide +kernel), gw 674 (by decide +kernel) (by decide +kernel), gw 70 (by decide +kernel) (by decide +kernel), gw 675 (by decide +kernel) (by decide +kernel)⟩
theorem myH_hasSheet : MYV (mH_hasSheet) := ⟨gw 682 (by decide +kernel) (by decide +kernel), gw 683 (by decide +kernel) (by decide +kernel), gw 75 (by decide +kernel) (by decide +kernel), gw 684 (by decide +kernel) (by decide +kernel)⟩
theorem myH_refusalAs : MYV (mH_refusalAs) := ⟨gw 686 (by decide +kernel) (by decide +kernel), gw 687 (by decide +kernel) (by decide +kernel), gw 75 (by decide +kernel) (by decide +kernel), gw 688 (by decide +kernel) (by decide +kernel)⟩
theorem myE_ranks : MYV (mE_ranks) := ⟨gw 678 (by decide +kernel) (by decide +kernel), gw 679 (by decide +kernel) (by decide +kernel), gw 70 (by decide +kernel) (by decide +kernel), gw 680 (by decide +kernel) (by decide +kernel)⟩
theorem myH_lay : MYV (mH_lay) := ⟨gw 696 (by decide +kernel) (by decide +kernel), gw 697 (by decide +kernel) (by decide +kernel), gw 75 (by decide +kernel) (by decide +kernel), gw 698 (by decide +kernel) (by decide +kernel)⟩
theorem myE_sheet : MYV (mE_sheet) := ⟨gw 692 (by decide +kernel) (by decide +kernel), gw 693 (by decide +kernel) (by decide +kernel), gw 70 (by decide +kernel) (by decide +kernel), gw 694 (by decide +kernel) (by decide +kernel)⟩
theorem myH_narrowed : MYV (mH_narrowed) := ⟨gw 704 (by decide +kernel) (by decide +kernel), gw 705 (by decide +kernel) (by decide +kernel), gw 75 (by decide +kernel) (by decide +kernel), gw 706 (by decide +kernel) (by decide +kernel)⟩
theorem myE_put : MYV (mE_put) := ⟨gw 700 (by decide +kernel) (by decide +kernel), gw 701 (by decide +kernel) (by decide +kernel), gw 70 (by decide +kernel) (by decide +kernel), gw 702 (by decide +kernel) (by decide +kernel)⟩
theorem myE_item : MYV (mE_item) := ⟨gw 708 (by decide +kernel) (by decide +kernel), gw 709 (by decide +kernel) (by decide +kernel), gw 70 (by decide +kernel) (by decide +kernel), gw 710 (by decide +kernel) (by decide +kernel)⟩
theorem myH_hasShelf : MYV (mH_hasShelf) := ⟨gw 716 (by decide +kernel) (by decide +kernel), gw 717 (by decide +kernel) (by decide +kernel), gw 75 (by decide +kernel) (by decide +kernel), gw 718 (by decide +kernel) (by decide +kernel)⟩
theorem myH_holdCoin : MYV (mH_holdCoin) := ⟨gw 720 (by decide +kernel) (by decide +kernel), gw 721 (by decide +kernel) (by decide +kernel), gw 75 (by decide +kernel) (by decide +kernel), gw 722 (by decide +kernel) (by decide +kernel)⟩
theorem myH_holdRow : MYV (mH_holdRow) := ⟨gw 724 (by decide +kernel) (by decide +kernel), gw 725 (by decide +kernel) (by decide +kernel), gw 75 (by decide +kernel) (by decide +kernel), gw 726 (by decide +kernel) (by decide +kernel)⟩
theorem myE_shelf : MYV (mE_shelf) := ⟨gw 712 (by decide +kernel) (by decide +kernel), gw 713 (by decide +kernel) (by decide +kernel), gw 70 (by decide +kernel) (by decide +kernel), gw 714 (by decide +kernel) (by decide +kernel)⟩
theorem myE_coinOnShelf : MYV (mE_coinOnShelf) := ⟨gw 733 (by decide +kernel) (by decide +kernel), gw 19 (by decide +kernel) (by decide +kernel), gw 70 (by decide +kernel) (by decide +kernel), gw 734 (by decide +kernel) (by decide +kernel)⟩
theorem myE_isUnder : MYS (mE_isUnder) := ⟨gw 736 (by decide +kernel) (by decide +kernel), gw 70 (by decide +kernel) (by decide +kernel), gw 737 (by decide +kernel) (by decide +kernel)⟩
theorem myE_taken : MYV (mE_taken) := ⟨gw 728 (by decide +kernel) (by decide +kernel), gw 729 (by decide +kernel) (by decide +kernel), gw 70 (by decide +kernel) (by decide +kernel), gw 730 (by decide +kernel) (by decide +kernel)⟩
theorem myA_bodyOf : MYS (mA_bodyOf) := ⟨gw 753 (by decide +kernel) (by decide +kernel), gw 74 (by decide +kernel) (by decide +kernel), gw 754 (by decide +kernel) (by decide +kernel)⟩
theorem myA_note : MYV (mA_note) := ⟨gw 760 (by decide +kernel) (by decide +kernel), gw 21 (by decide +kernel) (by decide +kernel), gw 74 (by decide +kernel) (by decide +kernel), gw 761 (by decide +kernel) (by decide +kernel)⟩
theorem myA_share : MYV (mA_share) := ⟨gw 764 (by decide +kernel) (by decide +kernel), gw 22 (by decide +kernel) (by decide +kernel), gw 74 (by decide +kernel) (by decide +kernel), gw 765 (by decide +kernel) (by decide +kernel)⟩
theorem myA_perform0 : MYV (mA_perform 0) := ⟨gw 750 (by decide +kernel) (by decide +kernel), gw 20 (by decide +kernel) (by decide +kernel), gw 74 (by decide +kernel) (by decide +kernel), gw 751 (by decide +kernel) (by decide +kernel)⟩
theorem myA_perform (n : Nat) : MYV (mA_perform n) := myA_perform0
theorem myA_start : MYV (mA_start) := ⟨gw 745 (by decide +kernel) (by decide +kernel), gw 746 (by decide +kernel) (by decide +kernel), gw 74 (by decide +kernel) (by decide +kernel), gw 747 (by decide +kernel) (by decide +kernel)⟩
theorem myE_act : MYV (mE_act) := ⟨gw 741 (by decide +kernel) (by decide +kernel), gw 742 (by decide +kernel) (by decide +kernel), gw 70 (by decide +kernel) (by decide +kernel), gw 743 (by decide +kernel) (by decide +kernel)⟩
theorem myE_trace : MYV (mE_trace) := ⟨gw 767 (by decide +kernel) (by decide +kernel), gw 768 (by decide +kernel) (by decide +kernel), gw 70 (by decide +kernel) (by decide +kernel), gw 769 (by decide +kernel) (by decide +kernel)⟩
theorem myE_many : MYV (mE_many) := ⟨gw 771 (by decide +kernel) (by decide +kernel), gw 772 (by decide +kernel) (by decide +kernel), gw 70 (by decide +kernel) (by decide +kernel), gw 773 (by decide +kernel) (by decide +kernel)⟩
theorem myT_become : MYV (mT_become) := ⟨gw 779 (by decide +kernel) (by decide +kernel), gw 780 (by decide +kernel) (by decide +kernel), gw 71 (by decide +kernel) (by decide +kernel), gw 781 (by decide +kernel) (by decide +kernel)⟩
theorem myE_keep : MYV (mE_keep) := ⟨gw 775 (by decide +kernel) (by decide +kernel), gw 776 (by decide +kernel) (by decide +kernel), gw 70 (by decide +kernel) (by decide +kernel), gw 777 (by decide +kernel) (by decide +kernel)⟩
theorem myE_again : MYV (mE_again) := ⟨gw 786 (by decide +kernel) (by decide +kernel), gw 787 (by decide +kernel) (by decide +kernel), gw 70 (by decide +kernel) (by decide +kernel), gw 788 (by decide +kernel) (by decide +kernel)⟩
theorem myM_in : MYS (mM_in) := ⟨gw 931 (by decide +kernel) (by decide +kernel), gw 76 (by decide +kernel) (by decide +kernel), gw 932 (by decide +kernel) (by decide +kernel)⟩
theorem myM_feed : MYV (mM_feed) := ⟨gw 927 (by decide +kernel) (by decide +kernel), gw 928 (by decide +kernel) (by decide +kernel), gw 76 (by decide +kernel) (by decide +kernel), gw 929 (by decide +kernel) (by decide +kernel)⟩
theorem myM_byteAt : MYV (mM_byteAt) := ⟨gw 944 (by decide +kernel) (by decide +kernel), gw 24 (by decide +kernel) (by decide +kernel), gw 76 (by decide +kernel) (by decide +kernel), gw 945 (by decide +kernel) (by decide +kernel)⟩
theorem myM_isLetter : MYS (mM_isLetter) := ⟨gw 947 (by decide +kernel) (by decide +kernel), gw 76 (by decide +kernel) (by decide +kernel), gw 948 (by decide +kernel) (by decide +kernel)⟩
theorem myM_isDigit : MYS (mM_isDigit) := ⟨gw 950 (by decide +kernel) (by decide +kernel), gw 76 (by decide +kernel) (by decide +kernel), gw 951 (by decide +kernel) (by decide +kernel)⟩
theorem myM_advance : MYV (mM_advance) := ⟨gw 940 (by decide +kernel) (by decide +kernel), gw 23 (by decide +kernel) (by decide +kernel), gw 76 (by decide +kernel) (by decide +kernel), gw 941 (by decide +kernel) (by decide +kernel)⟩
theorem myM_isWord : MYV (mM_isWord) := ⟨gw 958 (by decide +kernel) (by decide +kernel), gw 25 (by decide +kernel) (by decide +kernel), gw 76 (by decide +kernel) (by decide +kernel), gw 959 (by decide +kernel) (by decide +kernel)⟩
theorem myM_wantNumber : MYV (mM_wantNumber) := ⟨gw 966 (by decide +kernel) (by decide +kernel), gw 27 (by decide +kernel) (by decide +kernel), gw 76 (by decide +kernel) (by decide +kernel), gw 967 (by decide +kernel) (by decide +kernel)⟩
theorem myM_isMark : MYV (mM_isMark) := ⟨gw 974 (by decide +kernel) (by decide +kernel), gw 29 (by decide +kernel) (by decide +kernel), gw 76 (by decide +kernel) (by decide +kernel), gw 975 (by decide +kernel) (by decide +kernel)⟩
theorem myM_wantEnd : MYV (mM_wantEnd) := ⟨gw 970 (by decide +kernel) (by decide +kernel), gw 28 (by decide +kernel) (by decide +kernel), gw 76 (by decide +kernel) (by decide +kernel), gw 971 (by decide +kernel) (by decide +kernel)⟩
theorem myM_wantPerson : MYV (mM_wantPerson) := ⟨gw 962 (by decide +kernel) (by decide +kernel), gw 26 (by decide +kernel) (by decide +kernel), gw 76 (by decide +kernel) (by decide +kernel), gw 963 (by decide +kernel) (by decide +kernel)⟩
theorem myM_wantKnow : MYV (mM_wantKnow) := ⟨gw 979 (by decide +kernel) (by decide +kernel), gw 30 (by decide +kernel) (by decide +kernel), gw 76 (by decide +kernel) (by decide +kernel), gw 980 (by decide +kernel) (by decide +kernel)⟩
theorem myM_kindHere : MYV (mM_kindHere) := ⟨gw 983 (by decide +kernel) (by decide +kernel), gw 31 (by decide +kernel) (by decide +kernel), gw 76 (by decide +kernel) (by decide +kernel), gw 984 (by decide +kernel) (by decide +kernel)⟩
theorem myM_wantCoin : MYV (mM_wantCoin) := ⟨gw 993 (by decide +kernel) (by decide +kernel), gw 32 (by decide +kernel) (by decide +kernel), gw 76 (by decide +kernel) (by decide +kernel), gw 994 (by decide +kernel) (by decide +kernel)⟩
theorem myM_town : MYV (mM_town) := ⟨gw 935 (by decide +kernel) (by decide +kernel), gw 936 (by decide +kernel) (by decide +kernel), gw 76 (by decide +kernel) (by decide +kernel), gw 937 (by decide +kernel) (by decide +kernel)⟩
theorem myM_person : MYV (mM_person) := ⟨gw 998 (by decide +kernel) (by decide +kernel), gw 999 (by decide +kernel) (by decide +kernel), gw 76 (by decide +kernel) (by decide +kernel), gw 1000 (by decide +kernel) (by decide +kernel)⟩
theorem myM_isPerson : MYV (mM_isPerson) := ⟨gw 1007 (by decide +kernel) (by decide +kernel), gw 33 (by decide +kernel) (by decide +kernel), gw 76 (by decide +kernel) (by decide +kernel), gw 1008 (by decide +kernel) (by decide +kernel)⟩
theorem myM_its : MYV (mM_its) := ⟨gw 1015 (by decide +kernel) (by decide +kernel), gw 35 (by decide +kernel) (by decide +kernel), gw 76 (by decide +kernel) (by decide +kernel), gw 1016 (by decide +kernel) (by decide +kernel)⟩
theorem myM_heldBy : MYV (mM_heldBy) := ⟨gw 1011 (by decide +kernel) (by decide +kernel), gw 34 (by decide +kernel) (by decide +kernel), gw 76 (by decide +kernel) (by decide +kernel), gw 1012 (by decide +kernel) (by decide +kernel)⟩
theorem myM_has : MYS (mM_has) := ⟨gw 1022 (by decide +kernel) (by decide +kernel), gw 76 (by decide +kernel) (by decide +kernel), gw 1023 (by decide +kernel) (by decide +kernel)⟩
theorem myM_worth : MYV (mM_worth) := ⟨gw 1026 (by decide +kernel) (by decide +kernel), gw 37 (by decide +kernel) (by decide +kernel), gw 76 (by decide +kernel) (by decide +kernel), gw 1027 (by decide +kernel) (by decide +kernel)⟩
theorem myM_worthOf : MYV (mM_worthOf) := ⟨gw 1019 (by decide +kernel) (by decide +kernel), gw 36 (by decide +kernel) (by decide +kernel), gw 76 (by decide +kernel) (by decide +kernel), gw 1020 (by decide +kernel) (by decide +kernel)⟩
theorem myM_personOf : MYV (mM_personOf) := ⟨gw 1002 (by decide +kernel) (by decide +kernel), gw 1003 (by decide +kernel) (by decide +kernel), gw 76 (by decide +kernel) (by decide +kernel), gw 1004 (by decide +kernel) (by decide +kernel)⟩
theorem myM_rank : MYV (mM_rank) := ⟨gw 1029 (by decide +kernel) (by decide +kernel), gw 1030 (by decide +kernel) (by decide +kernel), gw 76 (by decide +kernel) (by decide +kernel), gw 1031 (by decide +kernel) (by decide +kernel)⟩
theorem myM_swapsKnow : MYV (mM_swapsKnow) := ⟨gw 1038 (by decide +kernel) (by decide +kernel), gw 38 (by decide +kernel) (by decide +kernel), gw 76 (by decide +kernel) (by decide +kernel), gw 1039 (by decide +kernel) (by decide +kernel)⟩
theorem myM_know : MYV (mM_know) := ⟨gw 1033 (by decide +kernel) (by decide +kernel), gw 1034 (by decide +kernel) (by decide +kernel), gw 76 (by decide +kernel) (by decide +kernel), gw 1035 (by decide +kernel) (by decide +kernel)⟩
theorem myM_coin : MYV (mM_coin) := ⟨gw 1041 (by decide +kernel) (by decide +kernel), gw 1042 (by decide +kernel) (by decide +kernel), gw 76 (by decide +kernel) (by decide +kernel), gw 1043 (by decide +kernel) (by decide +kernel)⟩
theorem myM_isCoin : MYV (mM_isCoin) := ⟨gw 1050 (by decide +kernel) (by decide +kernel), gw 39 (by decide +kernel) (by decide +kernel), gw 76 (by decide +kernel) (by decide +kernel), gw 1051 (by decide +kernel) (by decide +kernel)⟩
theorem myM_mayBe : MYV (mM_mayBe) := ⟨gw 1062 (by decide +kernel) (by decide +kernel), gw 42 (by decide +kernel) (by decide +kernel), gw 76 (by decide +kernel) (by decide +kernel), gw 1063 (by decide +kernel) (by decide +kernel)⟩
theorem myM_mayNow : MYV (mM_mayNow) := ⟨gw 1058 (by decide +kernel) (by decide +kernel), gw 41 (by decide +kernel) (by decide +kernel), gw 76 (by decide +kernel) (by decide +kernel), gw 1059 (by decide +kernel) (by decide +kernel)⟩
theorem myM_mayAll : MYV (mM_mayAll) := ⟨gw 1054 (by decide +kernel) (by decide +kernel), gw 40 (by decide +kernel) (by decide +kernel), gw 76 (by decide +kernel) (by decide +kernel), gw 1055 (by decide +kernel) (by decide +kernel)⟩
theorem myM_coinOf : MYV (mM_coinOf) := ⟨gw 1045 (by decide +kernel) (by decide +kernel), gw 1046 (by decide +kernel) (by decide +kernel), gw 76 (by decide +kernel) (by decide +kernel), gw 1047 (by decide +kernel) (by decide +kernel)⟩
theorem myM_stamp : MYV (mM_stamp) := ⟨gw 1065 (by decide +kernel) (by decide +kernel), gw 1066 (by decide +kernel) (by decide +kernel), gw 76 (by decide +kernel) (by decide +kernel), gw 1067 (by decide +kernel) (by decide +kernel)⟩
theorem myM_ones : MYS (mM_ones) := ⟨gw 1073 (by decide +kernel) (by decide +kernel), gw 76 (by decide +kernel) (by decide +kernel), gw 1074 (by decide +kernel) (by decide +kernel)⟩
theorem myM_clean : MYV (mM_clean) := ⟨gw 1069 (by decide +kernel) (by decide +kernel), gw 1070 (by decide +kernel) (by decide +kernel), gw 76 (by decide +kernel) (by decide +kernel), gw 1071 (by decide +kernel) (by decide +kernel)⟩
theorem myM_may : MYV (mM_may) := ⟨gw 1076 (by decide +kernel) (by decide +kernel), gw 1077 (by decide +kernel) (by decide +kernel), gw 76 (by decide +kernel) (by decide +kernel), gw 1078 (by decide +kernel) (by decide +kernel)⟩
theorem myM_everybody : MYV (mM_everybody) := ⟨gw 1089 (by decide +kernel) (by decide +kernel), gw 44 (by decide +kernel) (by decide +kernel), gw 76 (by decide +kernel) (by decide +kernel), gw 1090 (by decide +kernel) (by decide +kernel)⟩
theorem myM_goes : MYV (mM_goes) := ⟨gw 1093 (by decide +kernel) (by decide +kernel), gw 45 (by decide +kernel) (by decide +kernel), gw 76 (by decide +kernel) (by decide +kernel), gw 1094 (by decide +kernel) (by decide +kernel)⟩
theorem myM_gives : MYV (mM_gives) := ⟨gw 1085 (by decide +kernel) (by decide +kernel), gw 43 (by decide +kernel) (by decide +kernel), gw 76 (by decide +kernel) (by decide +kernel), gw 1086 (by decide +kernel) (by decide +kernel)⟩
theorem myM_give : MYV (mM_give) := ⟨gw 1080 (by decide +kernel) (by decide +kernel), gw 1081 (by decide +kernel) (by decide +kernel), gw 76 (by decide +kernel) (by decide +kernel), gw 1082 (by decide +kernel) (by decide +kernel)⟩
theorem myM_lot : MYV (mM_lot) := ⟨gw 1096 (by decide +kernel) (by decide +kernel), gw 1097 (by decide +kernel) (by decide +kernel), gw 76 (by decide +kernel) (by decide +kernel), gw 1098 (by decide +kernel) (by decide +kernel)⟩
theorem myM_firstFree : MYV (mM_firstFree) := ⟨gw 1106 (by decide +kernel) (by decide +kernel), gw 46 (by decide +kernel) (by decide +kernel), gw 76 (by decide +kernel) (by decide +kernel), gw 1107 (by decide +kernel) (by decide +kernel)⟩
theorem myM_lots : MYV (mM_lots) := ⟨gw 1101 (by decide +kernel) (by decide +kernel), gw 1102 (by decide +kernel) (by decide +kernel), gw 76 (by decide +kernel) (by decide +kernel), gw 1103 (by decide +kernel) (by decide +kernel)⟩
theorem myM_melt : MYV (mM_melt) := ⟨gw 1110 (by decide +kernel) (by decide +kernel), gw 1111 (by decide +kernel) (by decide +kernel), gw 76 (by decide +kernel) (by decide +kernel), gw 1112 (by decide +kernel) (by decide +kernel)⟩
theorem myM_findOne : MYV (mM_findOne) := ⟨gw 1127 (by decide +kernel) (by decide +kernel), gw 49 (by decide +kernel) (by decide +kernel), gw 76 (by decide +kernel) (by decide +kernel), gw 1128 (by decide +kernel) (by decide +kernel)⟩
theorem myM_findAll : MYV (mM_findAll) := ⟨gw 1123 (by decide +kernel) (by decide +kernel), gw 48 (by decide +kernel) (by decide +kernel), gw 76 (by decide +kernel) (by decide +kernel), gw 1124 (by decide +kernel) (by decide +kernel)⟩
theorem myM_placeOf : MYV (mM_placeOf) := ⟨gw 1131 (by decide +kernel) (by decide +kernel), gw 50 (by decide +kernel) (by decide +kernel), gw 76 (by decide +kernel) (by decide +kernel), gw 1132 (by decide +kernel) (by decide +kernel)⟩
theorem myM_leftOf : MYV (mM_leftOf) := ⟨gw 1119 (by decide +kernel) (by decide +kernel), gw 47 (by decide +kernel) (by decide +kernel), gw 76 (by decide +kernel) (by decide +kernel), gw 1120 (by decide +kernel) (by decide +kernel)⟩
theorem myM_left : MYV (mM_left) := ⟨gw 1114 (by decide +kernel) (by decide +kernel), gw 1115 (by decide +kernel) (by decide +kernel), gw 76 (by decide +kernel) (by decide +kernel), gw 1116 (by decide +kernel) (by decide +kernel)⟩
theorem myM_through : MYV (mM_through) := ⟨gw 1134 (by decide +kernel) (by decide +kernel), gw 1135 (by decide +kernel) (by decide +kernel), gw 76 (by decide +kernel) (by decide +kernel), gw 1136 (by decide +kernel) (by decide +kernel)⟩
theorem myM_ways : MYV (mM_ways) := ⟨gw 1138 (by decide +kernel) (by decide +kernel), gw 1139 (by decide +kernel) (by decide +kernel), gw 76 (by decide +kernel) (by decide +kernel), gw 1140 (by decide +kernel) (by decide +kernel)⟩
theorem myM_last : MYV (mM_last) := ⟨gw 1142 (by decide +kernel) (by decide +kernel), gw 1143 (by decide +kernel) (by decide +kernel), gw 76 (by decide +kernel) (by decide +kernel), gw 1144 (by decide +kernel) (by decide +kernel)⟩
theorem myM_findRow : MYV (mM_findRow) := ⟨gw 1151 (by decide +kernel) (by decide +kernel), gw 51 (by decide +kernel) (by decide +kernel), gw 76 (by decide +kernel) (by decide +kernel), gw 1152 (by decide +kernel) (by decide +kernel)⟩
theorem myM_row : MYV (mM_row) := ⟨gw 1146 (by decide +kernel) (by decide +kernel), gw 1147 (by decide +kernel) (by decide +kernel), gw 76 (by decide +kernel) (by decide +kernel), gw 1148 (by decide +kernel) (by decide +kernel)⟩
theorem myM_stuck : MYV (mM_stuck) := ⟨gw 1154 (by decide +kernel) (by decide +kernel), gw 1155 (by decide +kernel) (by decide +kernel), gw 76 (by decide +kernel) (by decide +kernel), gw 1156 (by decide +kernel) (by decide +kernel)⟩
theorem myM_best : MYV (mM_best) := ⟨gw 1158 (by decide +kernel) (by decide +kernel), gw 1159 (by decide +kernel) (by decide +kernel), gw 76 (by decide +kernel) (by decide +kernel), gw 1160 (by decide +kernel) (by decide +kernel)⟩
theorem myM_given : MYV (mM_given) := ⟨gw 1167 (by decide +kernel) (by decide +kernel), gw 52 (by decide +kernel) (by decide +kernel), gw 76 (by decide +kernel) (by decide +kernel), gw 1168 (by decide +kernel) (by decide +kernel)⟩
theorem myM_paid : MYV (mM_paid) := ⟨gw 1162 (by decide +kernel) (by decide +kernel), gw 1163 (by decide +kernel) (by decide +kernel), gw 76 (by decide +kernel) (by decide +kernel), gw 1164 (by decide +kernel) (by decide +kernel)⟩
theorem myM_friend : MYV (mM_friend) := ⟨gw 1170 (by decide +kernel) (by decide +kernel), gw 1171 (by decide +kernel) (by decide +kernel), gw 76 (by decide +kernel) (by decide +kernel), gw 1172 (by decide +kernel) (by decide +kernel)⟩
theorem myM_isSide : MYS (mM_isSide) := ⟨gw 1178 (by decide +kernel) (by decide +kernel), gw 76 (by decide +kernel) (by decide +kernel), gw 1179 (by decide +kernel) (by decide +kernel)⟩
theorem myM_heir : MYV (mM_heir) := ⟨gw 1174 (by decide +kernel) (by decide +kernel), gw 1175 (by decide +kernel) (by decide +kernel), gw 76 (by decide +kernel) (by decide +kernel), gw 1176 (by decide +kernel) (by decide +kernel)⟩
theorem myM_least : MYV (mM_least) := ⟨gw 1181 (by decide +kernel) (by decide +kernel), gw 1182 (by decide +kernel) (by decide +kernel), gw 76 (by decide +kernel) (by decide +kernel), gw 1183 (by decide +kernel) (by decide +kernel)⟩
theorem myM_all : MYV (mM_all) := ⟨gw 1185 (by decide +kernel) (by decide +kernel), gw 1186 (by decide +kernel) (by decide +kernel), gw 76 (by decide +kernel) (by decide +kernel), gw 1187 (by decide +kernel) (by decide +kernel)⟩
theorem myM_seed : MYV (mM_seed) := ⟨gw 1189 (by decide +kernel) (by decide +kernel), gw 1190 (by decide +kernel) (by decide +kernel), gw 76 (by decide +kernel) (by decide +kernel), gw 1191 (by decide +kernel) (by decide +kernel)⟩
theorem myM_prove : MYV (mM_prove) := ⟨gw 1193 (by decide +kernel) (by decide +kernel), gw 1194 (by decide +kernel) (by decide +kernel), gw 76 (by decide +kernel) (by decide +kernel), gw 1195 (by decide +kernel) (by decide +kernel)⟩
theorem myM_isRow : MYV (mM_isRow) := ⟨gw 1202 (by decide +kernel) (by decide +kernel), gw 53 (by decide +kernel) (by decide +kernel), gw 76 (by decide +kernel) (by decide +kernel), gw 1203 (by decide +kernel) (by decide +kernel)⟩
theorem myM_rowOf : MYV (mM_rowOf) := ⟨gw 1197 (by decide +kernel) (by decide +kernel), gw 1198 (by decide +kernel) (by decide +kernel), gw 76 (by decide +kernel) (by decide +kernel), gw 1199 (by decide +kernel) (by decide +kernel)⟩
theorem myM_alterRow : MYV (mM_alterRow) := ⟨gw 1205 (by decide +kernel) (by decide +kernel), gw 1206 (by decide +kernel) (by decide +kernel), gw 76 (by decide +kernel) (by decide +kernel), gw 1207 (by decide +kernel) (by decide +kernel)⟩
theorem myM_judge : MYV (mM_judge) := ⟨gw 1209 (by decide +kernel) (by decide +kernel), gw 1210 (by decide +kernel) (by decide +kernel), gw 76 (by decide +kernel) (by decide +kernel), gw 1211 (by decide +kernel) (by decide +kernel)⟩
theorem myM_isShelf : MYS (mM_isShelf) := ⟨gw 1217 (by decide +kernel) (by decide +kernel), gw 76 (by decide +kernel) (by decide +kernel), gw 1218 (by decide +kernel) (by decide +kernel)⟩
theorem myM_lacksSort : MYV (mM_lacksSort) := ⟨gw 1221 (by decide +kernel) (by decide +kernel), gw 54 (by decide +kernel) (by decide +kernel), gw 76 (by decide +kernel) (by decide +kernel), gw 1222 (by decide +kernel) (by decide +kernel)⟩
theorem myM_ranks : MYV (mM_ranks) := ⟨gw 1213 (by decide +kernel) (by decide +kernel), gw 1214 (by decide +kernel) (by decide +kernel), gw 76 (by decide +kernel) (by decide +kernel), gw 1215 (by decide +kernel) (by decide +kernel)⟩
theorem myM_sheet : MYV (mM_sheet) := ⟨gw 1225 (by decide +kernel) (by decide +kernel), gw 1226 (by decide +kernel) (by decide +kernel), gw 76 (by decide +kernel) (by decide +kernel), gw 1227 (by decide +kernel) (by decide +kernel)⟩
theorem myM_put : MYV (mM_put) := ⟨gw 1229 (by decide +kernel) (by decide +kernel), gw 1230 (by decide +kernel) (by decide +kernel), gw 76 (by decide +kernel) (by decide +kernel), gw 1231 (by decide +kernel) (by decide +kernel)⟩
theorem myM_item : MYV (mM_item) := ⟨gw 1233 (by decide +kernel) (by decide +kernel), gw 1234 (by decide +kernel) (by decide +kernel), gw 76 (by decide +kernel) (by decide +kernel), gw 1235 (by decide +kernel) (by decide +kernel)⟩
theorem myM_isHeld : MYV (mM_isHeld) := ⟨gw 1242 (by decide +kernel) (by decide +kernel), gw 55 (by decide +kernel) (by decide +kernel), gw 76 (by decide +kernel) (by decide +kernel), gw 1243 (by decide +kernel) (by decide +kernel)⟩
theorem myM_shelf : MYV (mM_shelf) := ⟨gw 1237 (by decide +kernel) (by decide +kernel), gw 1238 (by decide +kernel) (by decide +kernel), gw 76 (by decide +kernel) (by decide +kernel), gw 1239 (by decide +kernel) (by decide +kernel)⟩
theorem myM_kindOn : MYV (mM_kindOn) := ⟨gw 1250 (by decide +kernel) (by decide +kernel), gw 56 (by decide +kernel) (by decide +kernel), gw 76 (by decide +kernel) (by decide +kernel), gw 1251 (by decide +kernel) (by decide +kernel)⟩
theorem myM_isUnder : MYS (mM_isUnder) := ⟨gw 1253 (by decide +kernel) (by decide +kernel), gw 76 (by decide +kernel) (by decide +kernel), gw 1254 (by decide +kernel) (by decide +kernel)⟩
theorem myM_taken : MYV (mM_taken) := ⟨gw 1245 (by decide +kernel) (by decide +kernel), gw 1246 (by decide +kernel) (by decide +kernel), gw 76 (by decide +kernel) (by decide +kernel), gw 1247 (by decide +kernel) (by decide +kernel)⟩
theorem myM_ran : MYV (mM_ran) := ⟨gw 1269 (by decide +kernel) (by decide +kernel), gw 59 (by decide +kernel) (by decide +kernel), gw 76 (by decide +kernel) (by decide +kernel), gw 1270 (by decide +kernel) (by decide +kernel)⟩
theorem myM_plainRings : MYV (mM_plainRings) := ⟨gw 1273 (by decide +kernel) (by decide +kernel), gw 60 (by decide +kernel) (by decide +kernel), gw 76 (by decide +kernel) (by decide +kernel), gw 1274 (by decide +kernel) (by decide +kernel)⟩
theorem myM_crownRings : MYV (mM_crownRings) := ⟨gw 1265 (by decide +kernel) (by decide +kernel), gw 58 (by decide +kernel) (by decide +kernel), gw 76 (by decide +kernel) (by decide +kernel), gw 1266 (by decide +kernel) (by decide +kernel)⟩
theorem myM_ringsIt : MYV (mM_ringsIt) := ⟨gw 1261 (by decide +kernel) (by decide +kernel), gw 57 (by decide +kernel) (by decide +kernel), gw 76 (by decide +kernel) (by decide +kernel), gw 1262 (by decide +kernel) (by decide +kernel)⟩
theorem myM_plainWeighs : MYV (mM_plainWeighs) := ⟨gw 1281 (by decide +kernel) (by decide +kernel), gw 62 (by decide +kernel) (by decide +kernel), gw 76 (by decide +kernel) (by decide +kernel), gw 1282 (by decide +kernel) (by decide +kernel)⟩
theorem myM_weighsIt : MYV (mM_weighsIt) := ⟨gw 1277 (by decide +kernel) (by decide +kernel), gw 61 (by decide +kernel) (by decide +kernel), gw 76 (by decide +kernel) (by decide +kernel), gw 1278 (by decide +kernel) (by decide +kernel)⟩
theorem myM_plainShares : MYV (mM_plainShares) := ⟨gw 1289 (by decide +kernel) (by decide +kernel), gw 64 (by decide +kernel) (by decide +kernel), gw 76 (by decide +kernel) (by decide +kernel), gw 1290 (by decide +kernel) (by decide +kernel)⟩
theorem myM_sharesIt : MYV (mM_sharesIt) := ⟨gw 1285 (by decide +kernel) (by decide +kernel), gw 63 (by decide +kernel) (by decide +kernel), gw 76 (by decide +kernel) (by decide +kernel), gw 1286 (by decide +kernel) (by decide +kernel)⟩
theorem myM_plainTells : MYV (mM_plainTells) := ⟨gw 1297 (by decide +kernel) (by decide +kernel), gw 66 (by decide +kernel) (by decide +kernel), gw 76 (by decide +kernel) (by decide +kernel), gw 1298 (by decide +kernel) (by decide +kernel)⟩
theorem myM_tellsIt : MYV (mM_tellsIt) := ⟨gw 1293 (by decide +kernel) (by decide +kernel), gw 65 (by decide +kernel) (by decide +kernel), gw 76 (by decide +kernel) (by decide +kernel), gw 1294 (by decide +kernel) (by decide +kernel)⟩
theorem myM_act : MYV (mM_act) := ⟨gw 1256 (by decide +kernel) (by decide +kernel), gw 1257 (by decide +kernel) (by decide +kernel), gw 76 (by decide +kernel) (by decide +kernel), gw 1258 (by decide +kernel) (by decide +kernel)⟩
theorem myM_trace : MYV (mM_trace) := ⟨gw 1300 (by decide +kernel) (by decide +kernel), gw 1301 (by decide +kernel) (by decide +kernel), gw 76 (by decide +kernel) (by decide +kernel), gw 1302 (by decide +kernel) (by decide +kernel)⟩
theorem myM_many : MYV (mM_many) := ⟨gw 1304 (by decide +kernel) (by decide +kernel), gw 1305 (by decide +kernel) (by decide +kernel), gw 76 (by decide +kernel) (by decide +kernel), gw 1306 (by decide +kernel) (by decide +kernel)⟩
theorem myM_moveRow : MYV (mM_moveRow) := ⟨gw 1317 (by decide +kernel) (by decide +kernel), gw 68 (by decide +kernel) (by decide +kernel), gw 76 (by decide +kernel) (by decide +kernel), gw 1318 (by decide +kernel) (by decide +kernel)⟩
theorem myM_moveAll : MYV (mM_moveAll) := ⟨gw 1313 (by decide +kernel) (by decide +kernel), gw 67 (by decide +kernel) (by decide +kernel), gw 76 (by decide +kernel) (by decide +kernel), gw 1314 (by decide +kernel) (by decide +kernel)⟩
theorem myM_keep : MYV (mM_keep) := ⟨gw 1308 (by decide +kernel) (by decide +kernel), gw 1309 (by decide +kernel) (by decide +kernel), gw 76 (by decide +kernel) (by decide +kernel), gw 1310 (by decide +kernel) (by decide +kernel)⟩
theorem myM_again : MYV (mM_again) := ⟨gw 1320 (by decide +kernel) (by decide +kernel), gw 1321 (by decide +kernel) (by decide +kernel), gw 76 (by decide +kernel) (by decide +kernel), gw 1322 (by decide +kernel) (by decide +kernel)⟩
theorem myJS_length : MYV (mJS_length) := ⟨gw 314 (by decide +kernel) (by decide +kernel), gw 315 (by decide +kernel) (by decide +kernel), gw 78 (by decide +kernel) (by decide +kernel), gw 316 (by decide +kernel) (by decide +kernel)⟩
theorem dJS_length_0 : decode mJS_length.1 0 = .ok (.aload_n 0, 1) := by decide +kernel
theorem dJS_length_1 : decode mJS_length.1 1 = .ok (.getfield 9, 3) := by decide +kernel
theorem dJS_length_4 : decode mJS_length.1 4 = .ok (.arraylength, 1) := by decide +kernel
theorem dJS_length_5 : decode mJS_length.1 5 = .ok (.aload_n 0, 1) := by decide +kernel
theorem dJS_length_6 : decode mJS_length.1 6 = .ok (.invokevirtual 335, 3) := by decide +kernel
theorem dJS_length_9 : decode mJS_length.1 9 = .ok (.ishr, 1) := by decide +kernel
theorem dJS_length_10 : decode mJS_length.1 10 = .ok (.ireturn, 1) := by decide +kernel
theorem myJS_charAt : MYV (mJS_charAt) := ⟨gw 324 (by decide +kernel) (by decide +kernel), gw 325 (by decide +kernel) (by decide +kernel), gw 78 (by decide +kernel) (by decide +kernel), gw 326 (by decide +kernel) (by decide +kernel)⟩
theorem dJS_charAt_0 : decode mJS_charAt.1 0 = .ok (.aload_n 0, 1) := by decide +kernel
theorem dJS_charAt_1 : decode mJS_charAt.1 1 = .ok (.invokevirtual 492, 3) := by decide +kernel
theorem dJS_charAt_4 : decode mJS_charAt.1 4 = .ok (.ifCond .eq 12, 3) := by decide +kernel
theorem dJS_charAt_7 : decode mJS_charAt.1 7 = .ok (.aload_n 0, 1) := by decide +kernel
theorem dJS_charAt_8 : decode mJS_charAt.1 8 = .ok (.getfield 9, 3) := by decide +kernel
theorem dJS_charAt_11 : decode mJS_charAt.1 11 = .ok (.iload_n 1, 1) := by decide +kernel
theorem dJS_charAt_12 : decode mJS_charAt.1 12 = .ok (.invokestatic 495, 3) := by decide +kernel
theorem dJS_charAt_15 : decode mJS_charAt.1 15 = .ok (.ireturn, 1) := by decide +kernel
theorem dJS_charAt_16 : decode mJS_charAt.1 16 = .ok (.aload_n 0, 1) := by decide +kernel
theorem dJS_charAt_17 : decode mJS_charAt.1 17 = .ok (.getfield 9, 3) := by decide +kernel
theorem dJS_charAt_20 : decode mJS_charAt.1 20 = .ok (.iload_n 1, 1) := by decide +kernel
theorem dJS_charAt_21 : decode mJS_charAt.1 21 = .ok (.invokestatic 498, 3) := by decide +kernel
theorem dJS_charAt_24 : decode mJS_charAt.1 24 = .ok (.ireturn, 1) := by decide +kernel
theorem myJS_coder : MYV (mJS_coder) := ⟨gw 318 (by decide +kernel) (by decide +kernel), gw 319 (by decide +kernel) (by decide +kernel), gw 78 (by decide +kernel) (by decide +kernel), gw 320 (by decide +kernel) (by decide +kernel)⟩
theorem dJS_coder_0 : decode mJS_coder.1 0 = .ok (.getstatic 38, 3) := by decide +kernel
theorem dJS_coder_3 : decode mJS_coder.1 3 = .ok (.ifCond .eq 10, 3) := by decide +kernel
theorem dJS_coder_6 : decode mJS_coder.1 6 = .ok (.aload_n 0, 1) := by decide +kernel
theorem dJS_coder_7 : decode mJS_coder.1 7 = .ok (.getfield 15, 3) := by decide +kernel
theorem dJS_coder_10 : decode mJS_coder.1 10 = .ok (.goto 4, 3) := by decide +kernel
theorem dJS_coder_13 : decode mJS_coder.1 13 = .ok (.iconst 1, 1) := by decide +kernel
theorem dJS_coder_14 : decode mJS_coder.1 14 = .ok (.ireturn, 1) := by decide +kernel
theorem myJS_isLatin1 : MYV (mJS_isLatin1) := ⟨gw 328 (by decide +kernel) (by decide +kernel), gw 329 (by decide +kernel) (by decide +kernel), gw 78 (by decide +kernel) (by decide +kernel), gw 330 (by decide +kernel) (by decide +kernel)⟩
theorem dJS_isLatin1_0 : decode mJS_isLatin1.1 0 = .ok (.getstatic 38, 3) := by decide +kernel
theorem dJS_isLatin1_3 : decode mJS_isLatin1.1 3 = .ok (.ifCond .eq 14, 3) := by decide +kernel
theorem dJS_isLatin1_6 : decode mJS_isLatin1.1 6 = .ok (.aload_n 0, 1) := by decide +kernel
theorem dJS_isLatin1_7 : decode mJS_isLatin1.1 7 = .ok (.getfield 15, 3) := by decide +kernel
theorem dJS_isLatin1_10 : decode mJS_isLatin1.1 10 = .ok (.ifCond .ne 7, 3) := by decide +kernel
theorem dJS_isLatin1_13 : decode mJS_isLatin1.1 13 = .ok (.iconst 1, 1) := by decide +kernel
theorem dJS_isLatin1_14 : decode mJS_isLatin1.1 14 = .ok (.goto 4, 3) := by decide +kernel
theorem dJS_isLatin1_17 : decode mJS_isLatin1.1 17 = .ok (.iconst 0, 1) := by decide +kernel
theorem dJS_isLatin1_18 : decode mJS_isLatin1.1 18 = .ok (.ireturn, 1) := by decide +kernel
theorem myJL_charAt : MYS (mJL_charAt) := ⟨gw 332 (by decide +kernel) (by decide +kernel), gw 79 (by decide +kernel) (by decide +kernel), gw 333 (by decide +kernel) (by decide +kernel)⟩
theorem dJL_charAt_0 : decode mJL_charAt.1 0 = .ok (.iload_n 1, 1) := by decide +kernel
theorem dJL_charAt_1 : decode mJL_charAt.1 1 = .ok (.aload_n 0, 1) := by decide +kernel
theorem dJL_charAt_2 : decode mJL_charAt.1 2 = .ok (.arraylength, 1) := by decide +kernel
theorem dJL_charAt_3 : decode mJL_charAt.1 3 = .ok (.invokestatic 9, 3) := by decide +kernel
theorem dJL_charAt_6 : decode mJL_charAt.1 6 = .ok (.aload_n 0, 1) := by decide +kernel
theorem dJL_charAt_7 : decode mJL_charAt.1 7 = .ok (.iload_n 1, 1) := by decide +kernel
theorem dJL_charAt_8 : decode mJL_charAt.1 8 = .ok (.baload, 1) := by decide +kernel
theorem dJL_charAt_9 : decode mJL_charAt.1 9 = .ok (.sipush 255, 3) := by decide +kernel
theorem dJL_charAt_12 : decode mJL_charAt.1 12 = .ok (.iand, 1) := by decide +kernel
theorem dJL_charAt_13 : decode mJL_charAt.1 13 = .ok (.i2c, 1) := by decide +kernel
theorem dJL_charAt_14 : decode mJL_charAt.1 14 = .ok (.ireturn, 1) := by decide +kernel
theorem myJS_checkIndex : MYS (mJS_checkIndex) := ⟨gw 335 (by decide +kernel) (by decide +kernel), gw 78 (by decide +kernel) (by decide +kernel), gw 336 (by decide +kernel) (by decide +kernel)⟩
theorem dJS_checkIndex_0 : decode mJS_checkIndex.1 0 = .ok (.iload_n 0, 1) := by decide +kernel
theorem dJS_checkIndex_1 : decode mJS_checkIndex.1 1 = .ok (.iload_n 1, 1) := by decide +kernel
theorem dJS_checkIndex_2 : decode mJS_checkIndex.1 2 = .ok (.getstatic 1053, 3) := by decide +kernel
theorem dJS_checkIndex_5 : decode mJS_checkIndex.1 5 = .ok (.invokestatic 1059, 3) := by decide +kernel
theorem dJS_checkIndex_8 : decode mJS_checkIndex.1 8 = .ok (.pop, 1) := by decide +kernel
theorem dJS_checkIndex_9 : decode mJS_checkIndex.1 9 = .ok (.return_, 1) := by decide +kernel
theorem myJP_checkIndex : MYS (mJP_checkIndex) := ⟨gw 340 (by decide +kernel) (by decide +kernel), gw 80 (by decide +kernel) (by decide +kernel), gw 341 (by decide +kernel) (by decide +kernel)⟩
theorem dJP_checkIndex_0 : decode mJP_checkIndex.1 0 = .ok (.iload_n 0, 1) := by decide +kernel
theorem dJP_checkIndex_1 : decode mJP_checkIndex.1 1 = .ok (.ifCond .lt 8, 3) := by decide +kernel
theorem dJP_checkIndex_4 : decode mJP_checkIndex.1 4 = .ok (.iload_n 0, 1) := by decide +kernel
theorem dJP_checkIndex_5 : decode mJP_checkIndex.1 5 = .ok (.iload_n 1, 1) := by decide +kernel
theorem dJP_checkIndex_6 : decode mJP_checkIndex.1 6 = .ok (.if_icmp .lt 10, 3) := by decide +kernel
theorem dJP_checkIndex_9 : decode mJP_checkIndex.1 9 = .ok (.aload_n 2, 1) := by decide +kernel
theorem dJP_checkIndex_10 : decode mJP_checkIndex.1 10 = .ok (.iload_n 0, 1) := by decide +kernel
theorem dJP_checkIndex_11 : decode mJP_checkIndex.1 11 = .ok (.iload_n 1, 1) := by decide +kernel
theorem dJP_checkIndex_12 : decode mJP_checkIndex.1 12 = .ok (.invokestatic 95, 3) := by decide +kernel
theorem dJP_checkIndex_16 : decode mJP_checkIndex.1 16 = .ok (.iload_n 0, 1) := by decide +kernel
theorem dJP_checkIndex_17 : decode mJP_checkIndex.1 17 = .ok (.ireturn, 1) := by decide +kernel
theorem mnE_feed : MN mE_feed 2 := ⟨by decide, by decide, by decide +kernel⟩
theorem mnT_empty : MN mT_empty 0 := ⟨by decide, by decide, by decide +kernel⟩
theorem mnX_isLetter : MN mX_isLetter 1 := ⟨by decide, by decide, by decide +kernel⟩
theorem mnX_isDigit : MN mX_isDigit 1 := ⟨by decide, by decide, by decide +kernel⟩
theorem mnX_step : MN mX_step 0 := ⟨by decide, by decide, by decide +kernel⟩
theorem mnX_reads : MN mX_reads 1 := ⟨by decide, by decide, by decide +kernel⟩
theorem mnX_readNumber : MN mX_readNumber 2 := ⟨by decide, by decide, by decide +kernel⟩
theorem mnT_addPerson : MN mT_addPerson 1 := ⟨by decide, by decide, by decide +kernel⟩
theorem mnX_readEnd : MN mX_readEnd 0 := ⟨by decide, by decide, by decide +kernel⟩
theorem mnX_readPerson : MN mX_readPerson 1 := ⟨by decide, by decide, by decide +kernel⟩
theorem mnT_acquaint : MN mT_acquaint 3 := ⟨by decide, by decide, by decide +kernel⟩
theorem mnX_readKnow : MN mX_readKnow 1 := ⟨by decide, by decide, by decide +kernel⟩
theorem mnX_kindRead : MN mX_kindRead 0 := ⟨by decide, by decide, by decide +kernel⟩
theorem mnT_addCoin : MN mT_addCoin 3 := ⟨by decide, by decide, by decide +kernel⟩
theorem mnX_readHad : MN mX_readHad 2 := ⟨by decide, by decide, by decide +kernel⟩
theorem mnX_readCoin : MN mX_readCoin 2 := ⟨by decide, by decide, by decide +kernel⟩
theorem mnX_readStatement : MN mX_readStatement 1 := ⟨by decide, by decide, by decide +kernel⟩
theorem mnX_readInto : MN mX_readInto 1 := ⟨by decide, by decide, by decide +kernel⟩
theorem mnE_town : MN mE_town 0 := ⟨by decide, by decide, by decide +kernel⟩
theorem mnE_isRank : MN mE_isRank 1 := ⟨by decide, by decide, by decide +kernel⟩
theorem mnE_person : MN mE_person 1 := ⟨by decide, by decide, by decide +kernel⟩
theorem mnT_hasPerson : MN mT_hasPerson 1 := ⟨by decide, by decide, by decide +kernel⟩
theorem mnT_purse : MN mT_purse 1 := ⟨by decide, by decide, by decide +kernel⟩
theorem mnE_holds : MN mE_holds 2 := ⟨by decide, by decide, by decide +kernel⟩
theorem mnT_worth : MN mT_worth 1 := ⟨by decide, by decide, by decide +kernel⟩
theorem mnT_worthOfAll : MN mT_worthOfAll 1 := ⟨by decide, by decide, by decide +kernel⟩
theorem mnT_riches : MN mT_riches 1 := ⟨by decide, by decide, by decide +kernel⟩
theorem mnE_personOf : MN mE_personOf 2 := ⟨by decide, by decide, by decide +kernel⟩
theorem mnE_rank : MN mE_rank 2 := ⟨by decide, by decide, by decide +kernel⟩
theorem mnT_areAcquainted : MN mT_areAcquainted 2 := ⟨by decide, by decide, by decide +kernel⟩
theorem mnE_know : MN mE_know 3 := ⟨by decide, by decide, by decide +kernel⟩
theorem mnE_isKind : MN mE_isKind 1 := ⟨by decide, by decide, by decide +kernel⟩
theorem mnE_isA : MN mE_isA 1 := ⟨by decide, by decide, by decide +kernel⟩
theorem mnE_coin : MN mE_coin 3 := ⟨by decide, by decide, by decide +kernel⟩
theorem mnT_hasCoin : MN mT_hasCoin 1 := ⟨by decide, by decide, by decide +kernel⟩
theorem mnT_kindAllows : MN mT_kindAllows 3 := ⟨by decide, by decide, by decide +kernel⟩
theorem mnT_reach : MN mT_reach 2 := ⟨by decide, by decide, by decide +kernel⟩
theorem mnT_takers : MN mT_takers 1 := ⟨by decide, by decide, by decide +kernel⟩
theorem mnE_coinOf : MN mE_coinOf 2 := ⟨by decide, by decide, by decide +kernel⟩
theorem mnE_stamp : MN mE_stamp 3 := ⟨by decide, by decide, by decide +kernel⟩
theorem mnJI_bitCount : MN mJI_bitCount 1 := ⟨by decide, by decide, by decide +kernel⟩
theorem mnE_clean : MN mE_clean 1 := ⟨by decide, by decide, by decide +kernel⟩
theorem mnE_may : MN mE_may 2 := ⟨by decide, by decide, by decide +kernel⟩
theorem mnT_removeCoin : MN mT_removeCoin 1 := ⟨by decide, by decide, by decide +kernel⟩
theorem mnT_hand : MN mT_hand 2 := ⟨by decide, by decide, by decide +kernel⟩
theorem mnE_give : MN mE_give 2 := ⟨by decide, by decide, by decide +kernel⟩
theorem mnT_draw : MN mT_draw 1 := ⟨by decide, by decide, by decide +kernel⟩
theorem mnE_lot : MN mE_lot 1 := ⟨by decide, by decide, by decide +kernel⟩
theorem mnE_leastCoinToGive : MN mE_leastCoinToGive 0 := ⟨by decide, by decide, by decide +kernel⟩
theorem mnE_lots : MN mE_lots 1 := ⟨by decide, by decide, by decide +kernel⟩
theorem mnE_melt : MN mE_melt 1 := ⟨by decide, by decide, by decide +kernel⟩
theorem mnW_takers : MN mW_takers 2 := ⟨by decide, by decide, by decide +kernel⟩
theorem mnW_at : MN mW_at 2 := ⟨by decide, by decide, by decide +kernel⟩
theorem mnW_value : MN mW_value 3 := ⟨by decide, by decide, by decide +kernel⟩
theorem mnW_fill : MN mW_fill 2 := ⟨by decide, by decide, by decide +kernel⟩
theorem mnW_survey : MN mW_survey 3 := ⟨by decide, by decide, by decide +kernel⟩
theorem mnE_look : MN mE_look 2 := ⟨by decide, by decide, by decide +kernel⟩
theorem mnE_left : MN mE_left 1 := ⟨by decide, by decide, by decide +kernel⟩
theorem mnW_firstTaker : MN mW_firstTaker 2 := ⟨by decide, by decide, by decide +kernel⟩
theorem mnE_row : MN mE_row 2 := ⟨by decide, by decide, by decide +kernel⟩
theorem mnE_through : MN mE_through 1 := ⟨by decide, by decide, by decide +kernel⟩
theorem mnE_ways : MN mE_ways 1 := ⟨by decide, by decide, by decide +kernel⟩
theorem mnE_last : MN mE_last 1 := ⟨by decide, by decide, by decide +kernel⟩
theorem mnE_stuck : MN mE_stuck 0 := ⟨by decide, by decide, by decide +kernel⟩
theorem mnE_best : MN mE_best 2 := ⟨by decide, by decide, by decide +kernel⟩
theorem mnT_purseFor : MN mT_purseFor 2 := ⟨by decide, by decide, by decide +kernel⟩
theorem mnE_paid : MN mE_paid 3 := ⟨by decide, by decide, by decide +kernel⟩
theorem mnE_leftIfAcquainted : MN mE_leftIfAcquainted 3 := ⟨by decide, by decide, by decide +kernel⟩
theorem mnE_friend : MN mE_friend 1 := ⟨by decide, by decide, by decide +kernel⟩
theorem mnE_heir : MN mE_heir 2 := ⟨by decide, by decide, by decide +kernel⟩
theorem mnE_least : MN mE_least 0 := ⟨by decide, by decide, by decide +kernel⟩
theorem mnT_allSilver : MN mT_allSilver 0 := ⟨by decide, by decide, by decide +kernel⟩
theorem mnT_acquaintances : MN mT_acquaintances 0 := ⟨by decide, by decide, by decide +kernel⟩
theorem mnE_leftOfAll : MN mE_leftOfAll 0 := ⟨by decide, by decide, by decide +kernel⟩
theorem mnE_all : MN mE_all 1 := ⟨by decide, by decide, by decide +kernel⟩
theorem mnE_seed : MN mE_seed 1 := ⟨by decide, by decide, by decide +kernel⟩
theorem mnE_prove : MN mE_prove 1 := ⟨by decide, by decide, by decide +kernel⟩
theorem mnE_isRowPart : MN mE_isRowPart 2 := ⟨by decide, by decide, by decide +kernel⟩
theorem mnE_rowOf : MN mE_rowOf 2 := ⟨by decide, by decide, by decide +kernel⟩
theorem mnE_alterRow : MN mE_alterRow 3 := ⟨by decide, by decide, by decide +kernel⟩
theorem mnE_judge : MN mE_judge 1 := ⟨by decide, by decide, by decide +kernel⟩
theorem mnH_hasSheet : MN mH_hasSheet 1 := ⟨by decide, by decide, by decide +kernel⟩
theorem mnH_refusalAs : MN mH_refusalAs 2 := ⟨by decide, by decide, by decide +kernel⟩
theorem mnE_ranks : MN mE_ranks 4 := ⟨by decide, by decide, by decide +kernel⟩
theorem mnH_lay : MN mH_lay 3 := ⟨by decide, by decide, by decide +kernel⟩
theorem mnE_sheet : MN mE_sheet 3 := ⟨by decide, by decide, by decide +kernel⟩
theorem mnH_narrowed : MN mH_narrowed 2 := ⟨by decide, by decide, by decide +kernel⟩
theorem mnE_put : MN mE_put 3 := ⟨by decide, by decide, by decide +kernel⟩
theorem mnE_item : MN mE_item 3 := ⟨by decide, by decide, by decide +kernel⟩
theorem mnH_hasShelf : MN mH_hasShelf 1 := ⟨by decide, by decide, by decide +kernel⟩
theorem mnH_holdCoin : MN mH_holdCoin 2 := ⟨by decide, by decide, by decide +kernel⟩
theorem mnH_holdRow : MN mH_holdRow 2 := ⟨by decide, by decide, by decide +kernel⟩
theorem mnE_shelf : MN mE_shelf 3 := ⟨by decide, by decide, by decide +kernel⟩
theorem mnE_coinOnShelf : MN mE_coinOnShelf 1 := ⟨by decide, by decide, by decide +kernel⟩
theorem mnE_isUnder : MN mE_isUnder 2 := ⟨by decide, by decide, by decide +kernel⟩
theorem mnE_taken : MN mE_taken 2 := ⟨by decide, by decide, by decide +kernel⟩
theorem mnA_bodyOf : MN mA_bodyOf 2 := ⟨by decide, by decide, by decide +kernel⟩
theorem mnA_note : MN mA_note 1 := ⟨by decide, by decide, by decide +kernel⟩
theorem mnA_share : MN mA_share 1 := ⟨by decide, by decide, by decide +kernel⟩
theorem mnA_perform0 : MN (mA_perform 0) 4 := ⟨by decide, by decide, by decide +kernel⟩
theorem mnA_perform (n : Nat) : MN (mA_perform n) 4 := mnA_perform0
theorem mnA_start : MN mA_start 5 := ⟨by decide, by decide, by decide +kernel⟩
theorem mnE_act : MN mE_act 3 := ⟨by decide, by decide, by decide +kernel⟩
theorem mnE_trace : MN mE_trace 1 := ⟨by decide, by decide, by decide +kernel⟩
theorem mnE_many : MN mE_many 1 := ⟨by decide, by decide, by decide +kernel⟩
theorem mnT_become : MN mT_become 1 := ⟨by decide, by decide, by decide +kernel⟩
theorem mnE_keep : MN mE_keep 0 := ⟨by decide, by decide, by decide +kernel⟩
theorem mnE_again : MN mE_again 0 := ⟨by decide, by decide, by decide +kernel⟩
theorem mnM_in : MN mM_in 3 := ⟨by decide, by decide, by decide +kernel⟩
theorem mnM_feed : MN mM_feed 2 := ⟨by decide, by decide, by decide +kernel⟩
theorem mnM_byteAt : MN mM_byteAt 1 := ⟨by decide, by decide, by decide +kernel⟩
theorem mnM_isLetter : MN mM_isLetter 1 := ⟨by decide, by decide, by decide +kernel⟩
theorem mnM_isDigit : MN mM_isDigit 1 := ⟨by decide, by decide, by decide +kernel⟩
theorem mnM_advance : MN mM_advance 0 := ⟨by decide, by decide, by decide +kernel⟩
theorem mnM_isWord : MN mM_isWord 1 := ⟨by decide, by decide, by decide +kernel⟩
theorem mnM_wantNumber : MN mM_wantNumber 2 := ⟨by decide, by decide, by decide +kernel⟩
theorem mnM_isMark : MN mM_isMark 1 := ⟨by decide, by decide, by decide +kernel⟩
theorem mnM_wantEnd : MN mM_wantEnd 0 := ⟨by decide, by decide, by decide +kernel⟩
theorem mnM_wantPerson : MN mM_wantPerson 0 := ⟨by decide, by decide, by decide +kernel⟩
theorem mnM_wantKnow : MN mM_wantKnow 0 := ⟨by decide, by decide, by decide +kernel⟩
theorem mnM_kindHere : MN mM_kindHere 0 := ⟨by decide, by decide, by decide +kernel⟩
theorem mnM_wantCoin : MN mM_wantCoin 1 := ⟨by decide, by decide, by decide +kernel⟩
theorem mnM_town : MN mM_town 0 := ⟨by decide, by decide, by decide +kernel⟩
theorem mnM_person : MN mM_person 1 := ⟨by decide, by decide, by decide +kernel⟩
theorem mnM_isPerson : MN mM_isPerson 1 := ⟨by decide, by decide, by decide +kernel⟩
theorem mnM_its : MN mM_its 2 := ⟨by decide, by decide, by decide +kernel⟩
theorem mnM_heldBy : MN mM_heldBy 1 := ⟨by decide, by decide, by decide +kernel⟩
theorem mnM_has : MN mM_has 2 := ⟨by decide, by decide, by decide +kernel⟩
theorem mnM_worth : MN mM_worth 1 := ⟨by decide, by decide, by decide +kernel⟩
theorem mnM_worthOf : MN mM_worthOf 1 := ⟨by decide, by decide, by decide +kernel⟩
theorem mnM_personOf : MN mM_personOf 2 := ⟨by decide, by decide, by decide +kernel⟩
theorem mnM_rank : MN mM_rank 2 := ⟨by decide, by decide, by decide +kernel⟩
theorem mnM_swapsKnow : MN mM_swapsKnow 2 := ⟨by decide, by decide, by decide +kernel⟩
theorem mnM_know : MN mM_know 3 := ⟨by decide, by decide, by decide +kernel⟩
theorem mnM_coin : MN mM_coin 3 := ⟨by decide, by decide, by decide +kernel⟩
theorem mnM_isCoin : MN mM_isCoin 1 := ⟨by decide, by decide, by decide +kernel⟩
theorem mnM_mayBe : MN mM_mayBe 4 := ⟨by decide, by decide, by decide +kernel⟩
theorem mnM_mayNow : MN mM_mayNow 2 := ⟨by decide, by decide, by decide +kernel⟩
theorem mnM_mayAll : MN mM_mayAll 1 := ⟨by decide, by decide, by decide +kernel⟩
theorem mnM_coinOf : MN mM_coinOf 2 := ⟨by decide, by decide, by decide +kernel⟩
theorem mnM_stamp : MN mM_stamp 3 := ⟨by decide, by decide, by decide +kernel⟩
theorem mnM_ones : MN mM_ones 1 := ⟨by decide, by decide, by decide +kernel⟩
theorem mnM_clean : MN mM_clean 1 := ⟨by decide, by decide, by decide +kernel⟩
theorem mnM_may : MN mM_may 2 := ⟨by decide, by decide, by decide +kernel⟩
theorem mnM_everybody : MN mM_everybody 0 := ⟨by decide, by decide, by decide +kernel⟩
theorem mnM_goes : MN mM_goes 1 := ⟨by decide, by decide, by decide +kernel⟩
theorem mnM_gives : MN mM_gives 2 := ⟨by decide, by decide, by decide +kernel⟩
theorem mnM_give : MN mM_give 2 := ⟨by decide, by decide, by decide +kernel⟩
theorem mnM_lot : MN mM_lot 1 := ⟨by decide, by decide, by decide +kernel⟩
theorem mnM_firstFree : MN mM_firstFree 0 := ⟨by decide, by decide, by decide +kernel⟩
theorem mnM_lots : MN mM_lots 1 := ⟨by decide, by decide, by decide +kernel⟩
theorem mnM_melt : MN mM_melt 1 := ⟨by decide, by decide, by decide +kernel⟩
theorem mnM_findOne : MN mM_findOne 3 := ⟨by decide, by decide, by decide +kernel⟩
theorem mnM_findAll : MN mM_findAll 1 := ⟨by decide, by decide, by decide +kernel⟩
theorem mnM_placeOf : MN mM_placeOf 1 := ⟨by decide, by decide, by decide +kernel⟩
theorem mnM_leftOf : MN mM_leftOf 1 := ⟨by decide, by decide, by decide +kernel⟩
theorem mnM_left : MN mM_left 1 := ⟨by decide, by decide, by decide +kernel⟩
theorem mnM_through : MN mM_through 1 := ⟨by decide, by decide, by decide +kernel⟩
theorem mnM_ways : MN mM_ways 1 := ⟨by decide, by decide, by decide +kernel⟩
theorem mnM_last : MN mM_last 1 := ⟨by decide, by decide, by decide +kernel⟩
theorem mnM_findRow : MN mM_findRow 1 := ⟨by decide, by decide, by decide +kernel⟩
theorem mnM_row : MN mM_row 2 := ⟨by decide, by decide, by decide +kernel⟩
theorem mnM_stuck : MN mM_stuck 0 := ⟨by decide, by decide, by decide +kernel⟩
theorem mnM_best : MN mM_best 2 := ⟨by decide, by decide, by decide +kernel⟩
theorem mnM_given : MN mM_given 2 := ⟨by decide, by decide, by decide +kernel⟩
theorem mnM_paid : MN mM_paid 3 := ⟨by decide, by decide, by decide +kernel⟩
theorem mnM_friend : MN mM_friend 1 := ⟨by decide, by decide, by decide +kernel⟩
theorem mnM_isSide : MN mM_isSide 1 := ⟨by decide, by decide, by decide +kernel⟩
theorem mnM_heir : MN mM_heir 2 := ⟨by decide, by decide, by decide +kernel⟩
theorem mnM_least : MN mM_least 0 := ⟨by decide, by decide, by decide +kernel⟩
theorem mnM_all : MN mM_all 1 := ⟨by decide, by decide, by decide +kernel⟩
theorem mnM_seed : MN mM_seed 1 := ⟨by decide, by decide, by decide +kernel⟩
theorem mnM_prove : MN mM_prove 1 := ⟨by decide, by decide, by decide +kernel⟩
theorem mnM_isRow : MN mM_isRow 2 := ⟨by decide, by decide, by decide +kernel⟩
theorem mnM_rowOf : MN mM_rowOf 2 := ⟨by decide, by decide, by decide +kernel⟩
theorem mnM_alterRow : MN mM_alterRow 3 := ⟨by decide, by decide, by decide +kernel⟩
theorem mnM_judge : MN mM_judge 1 := ⟨by decide, by decide, by decide +kernel⟩
theorem mnM_isShelf : MN mM_isShelf 1 := ⟨by decide, by decide, by decide +kernel⟩
theorem mnM_lacksSort : MN mM_lacksSort 2 := ⟨by decide, by decide, by decide +kernel⟩
theorem mnM_ranks : MN mM_ranks 4 := ⟨by decide, by decide, by decide +kernel⟩
theorem mnM_sheet : MN mM_sheet 3 := ⟨by decide, by decide, by decide +kernel⟩
theorem mnM_put : MN mM_put 3 := ⟨by decide, by decide, by decide +kernel⟩
theorem mnM_item : MN mM_item 3 := ⟨by decide, by decide, by decide +kernel⟩
theorem mnM_isHeld : MN mM_isHeld 2 := ⟨by decide, by decide, by decide +kernel⟩
theorem mnM_shelf : MN mM_shelf 3 := ⟨by decide, by decide, by decide +kernel⟩
theorem mnM_kindOn : MN mM_kindOn 1 := ⟨by decide, by decide, by decide +kernel⟩
theorem mnM_isUnder : MN mM_isUnder 2 := ⟨by decide, by decide, by decide +kernel⟩
theorem mnM_taken : MN mM_taken 2 := ⟨by decide, by decide, by decide +kernel⟩
theorem mnM_ran : MN mM_ran 1 := ⟨by decide, by decide, by decide +kernel⟩
theorem mnM_plainRings : MN mM_plainRings 1 := ⟨by decide, by decide, by decide +kernel⟩
theorem mnM_crownRings : MN mM_crownRings 1 := ⟨by decide, by decide, by decide +kernel⟩
theorem mnM_ringsIt : MN mM_ringsIt 1 := ⟨by decide, by decide, by decide +kernel⟩
theorem mnM_plainWeighs : MN mM_plainWeighs 1 := ⟨by decide, by decide, by decide +kernel⟩
theorem mnM_weighsIt : MN mM_weighsIt 1 := ⟨by decide, by decide, by decide +kernel⟩
theorem mnM_plainShares : MN mM_plainShares 1 := ⟨by decide, by decide, by decide +kernel⟩
theorem mnM_sharesIt : MN mM_sharesIt 1 := ⟨by decide, by decide, by decide +kernel⟩
theorem mnM_plainTells : MN mM_plainTells 1 := ⟨by decide, by decide, by decide +kernel⟩
theorem mnM_tellsIt : MN mM_tellsIt 1 := ⟨by decide, by decide, by decide +kernel⟩
theorem mnM_act : MN mM_act 3 := ⟨by decide, by decide, by decide +kernel⟩
theorem mnM_trace : MN mM_trace 1 := ⟨by decide, by decide, by decide +kernel⟩
theorem mnM_many : MN mM_many 1 := ⟨by decide, by decide, by decide +kernel⟩
theorem mnM_moveRow : MN mM_moveRow 3 := ⟨by decide, by decide, by decide +kernel⟩
theorem mnM_moveAll : MN mM_moveAll 1 := ⟨by decide, by decide, by decide +kernel⟩
theorem mnM_keep : MN mM_keep 0 := ⟨by decide, by decide, by decide +kernel⟩
theorem mnM_again : MN mM_again 0 := ⟨by decide, by decide, by decide +kernel⟩
theorem mnJS_length : MN mJS_length 0 := ⟨by decide, by decide, by decide +kernel⟩
theorem mnJS_charAt : MN mJS_charAt 1 := ⟨by decide, by decide, by decide +kernel⟩
theorem mnJS_coder : MN mJS_coder 0 := ⟨by decide, by decide, by decide +kernel⟩
theorem mnJS_isLatin1 : MN mJS_isLatin1 0 := ⟨by decide, by decide, by decide +kernel⟩
theorem mnJL_charAt : MN mJL_charAt 2 := ⟨by decide, by decide, by decide +kernel⟩
theorem mnJS_checkIndex : MN mJS_checkIndex 2 := ⟨by decide, by decide, by decide +kernel⟩
theorem mnJP_checkIndex : MN mJP_checkIndex 3 := ⟨by decide, by decide, by decide +kernel⟩
theorem lcm1 : Int32.ofInt (-1) = (-1 : Int32) := by decide
theorem lc0 : Int32.ofInt (0) = (0 : Int32) := by decide
theorem lc1 : Int32.ofInt (1) = (1 : Int32) := by decide
theorem lc2 : Int32.ofInt (2) = (2 : Int32) := by decide
theorem lc3 : Int32.ofInt (3) = (3 : Int32) := by decide
theorem lc4 : Int32.ofInt (4) = (4 : Int32) := by decide
theorem lc5 : Int32.ofInt (5) = (5 : Int32) := by decide
theorem lbm100 : (Int8.ofInt (-100)).toInt32 = (-100 : Int32) := by decide
theorem lbm15 : (Int8.ofInt (-15)).toInt32 = (-15 : Int32) := by decide
theorem lbm14 : (Int8.ofInt (-14)).toInt32 = (-14 : Int32) := by decide
theorem lbm13 : (Int8.ofInt (-13)).toInt32 = (-13 : Int32) := by decide
theorem lbm12 : (Int8.ofInt (-12)).toInt32 = (-12 : Int32) := by decide
theorem lbm11 : (Int8.ofInt (-11)).toInt32 = (-11 : Int32) := by decide
theorem lbm9 : (Int8.ofInt (-9)).toInt32 = (-9 : Int32) := by decide
theorem lbm4 : (Int8.ofInt (-4)).toInt32 = (-4 : Int32) := by decide
theorem lbm3 : (Int8.ofInt (-3)).toInt32 = (-3 : Int32) := by decide
theorem lbm2 : (Int8.ofInt (-2)).toInt32 = (-2 : Int32) := by decide
theorem lb6 : (Int8.ofInt (6)).toInt32 = (6 : Int32) := by decide
theorem lb7 : (Int8.ofInt (7)).toInt32 = (7 : Int32) := by decide
theorem lb8 : (Int8.ofInt (8)).toInt32 = (8 : Int32) := by decide
theorem lb9 : (Int8.ofInt (9)).toInt32 = (9 : Int32) := by decide
theorem lb10 : (Int8.ofInt (10)).toInt32 = (10 : Int32) := by decide
theorem lb11 : (Int8.ofInt (11)).toInt32 = (11 : Int32) := by decide
theorem lb12 : (Int8.ofInt (12)).toInt32 = (12 : Int32) := by decide
theorem lb13 : (Int8.ofInt (13)).toInt32 = (13 : Int32) := by decide
theorem lb16 : (Int8.ofInt (16)).toInt32 = (16 : Int32) := by decide
theorem lb20 : (Int8.ofInt (20)).toInt32 = (20 : Int32) := by decide
theorem lb24 : (Int8.ofInt (24)).toInt32 = (24 : Int32) := by decide
theorem lb30 : (Int8.ofInt (30)).toInt32 = (30 : Int32) := by decide
theorem lb31 : (Int8.ofInt (31)).toInt32 = (31 : Int32) := by decide
theorem lb32 : (Int8.ofInt (32)).toInt32 = (32 : Int32) := by decide
theorem lb40 : (Int8.ofInt (40)).toInt32 = (40 : Int32) := by decide
theorem lb41 : (Int8.ofInt (41)).toInt32 = (41 : Int32) := by decide
theorem lb44 : (Int8.ofInt (44)).toInt32 = (44 : Int32) := by decide
theorem lb48 : (Int8.ofInt (48)).toInt32 = (48 : Int32) := by decide
theorem lb50 : (Int8.ofInt (50)).toInt32 = (50 : Int32) := by decide
theorem lb51 : (Int8.ofInt (51)).toInt32 = (51 : Int32) := by decide
theorem lb57 : (Int8.ofInt (57)).toInt32 = (57 : Int32) := by decide
theorem lb59 : (Int8.ofInt (59)).toInt32 = (59 : Int32) := by decide
theorem lb60 : (Int8.ofInt (60)).toInt32 = (60 : Int32) := by decide
theorem lb61 : (Int8.ofInt (61)).toInt32 = (61 : Int32) := by decide
theorem lb63 : (Int8.ofInt (63)).toInt32 = (63 : Int32) := by decide
theorem lb97 : (Int8.ofInt (97)).toInt32 = (97 : Int32) := by decide
theorem lb99 : (Int8.ofInt (99)).toInt32 = (99 : Int32) := by decide
theorem lb122 : (Int8.ofInt (122)).toInt32 = (122 : Int32) := by decide
theorem ls128 : (Int16.ofInt (128)).toInt32 = (128 : Int32) := by decide
theorem ls200 : (Int16.ofInt (200)).toInt32 = (200 : Int32) := by decide
theorem ls222 : (Int16.ofInt (222)).toInt32 = (222 : Int32) := by decide
theorem ls255 : (Int16.ofInt (255)).toInt32 = (255 : Int32) := by decide
theorem ls999 : (Int16.ofInt (999)).toInt32 = (999 : Int32) := by decide
theorem ls12345 : (Int16.ofInt (12345)).toInt32 = (12345 : Int32) := by decide
theorem cT_83 : Cond.constant "EveryHand$Town" 83 (1103515245) ∈ GW := gw 534 (by decide +kernel) (by decide +kernel)
theorem cM_241 : Cond.constant "EveryHandModel" 241 (1103515245) ∈ GW := gw 1099 (by decide +kernel) (by decide +kernel)
theorem cJI_265 : Cond.constant "java/lang/Integer" 265 (1431655765) ∈ GW := gw 505 (by decide +kernel) (by decide +kernel)
theorem cJI_266 : Cond.constant "java/lang/Integer" 266 (858993459) ∈ GW := gw 506 (by decide +kernel) (by decide +kernel)
theorem cJI_267 : Cond.constant "java/lang/Integer" 267 (252645135) ∈ GW := gw 507 (by decide +kernel) (by decide +kernel)
theorem cM_94 : Cond.constantLong "EveryHandModel" 94 (255) ∈ GW := gw 933 (by decide +kernel) (by decide +kernel)
theorem cM_123 : Cond.constantLong "EveryHandModel" 123 (27) ∈ GW := gw 952 (by decide +kernel) (by decide +kernel)
theorem cM_125 : Cond.constantLong "EveryHandModel" 125 (96) ∈ GW := gw 953 (by decide +kernel) (by decide +kernel)
theorem cM_127 : Cond.constantLong "EveryHandModel" 127 (-1) ∈ GW := gw 954 (by decide +kernel) (by decide +kernel)
theorem cM_129 : Cond.constantLong "EveryHandModel" 129 (70241) ∈ GW := gw 985 (by decide +kernel) (by decide +kernel)
theorem cM_135 : Cond.constantLong "EveryHandModel" 135 (158523) ∈ GW := gw 986 (by decide +kernel) (by decide +kernel)
theorem cM_137 : Cond.constantLong "EveryHandModel" 137 (1960187) ∈ GW := gw 987 (by decide +kernel) (by decide +kernel)
theorem cM_139 : Cond.constantLong "EveryHandModel" 139 (3217595) ∈ GW := gw 988 (by decide +kernel) (by decide +kernel)
theorem cM_141 : Cond.constantLong "EveryHandModel" 141 (950073034) ∈ GW := gw 989 (by decide +kernel) (by decide +kernel)
theorem cM_143 : Cond.constantLong "EveryHandModel" 143 (464144) ∈ GW := gw 990 (by decide +kernel) (by decide +kernel)
theorem cM_168 : Cond.constantLong "EveryHandModel" 168 (411) ∈ GW := gw 995 (by decide +kernel) (by decide +kernel)
theorem cM_170 : Cond.constantLong "EveryHandModel" 170 (5863) ∈ GW := gw 996 (by decide +kernel) (by decide +kernel)
theorem cM_172 : Cond.constantLong "EveryHandModel" 172 (232608281) ∈ GW := gw 955 (by decide +kernel) (by decide +kernel)
theorem cM_177 : Cond.constantLong "EveryHandModel" 177 (227147) ∈ GW := gw 976 (by decide +kernel) (by decide +kernel)
theorem cM_282 : Cond.constantLong "EveryHandModel" 282 (9) ∈ GW := gw 1223 (by decide +kernel) (by decide +kernel)
theorem flA_11 : FL "EveryHand$Acts" 11 0 0 4 := ⟨_, rfl, by decide, rfl, rfl, rfl, by decide, gw 188 (by decide +kernel) (by decide +kernel)⟩
theorem flA_15 : FL "EveryHand$Acts" 15 0 1 0 := ⟨_, rfl, by decide, rfl, rfl, rfl, by decide, gw 190 (by decide +kernel) (by decide +kernel)⟩
theorem flA_19 : FL "EveryHand$Acts" 19 0 2 0 := ⟨_, rfl, by decide, rfl, rfl, rfl, by decide, gw 192 (by decide +kernel) (by decide +kernel)⟩
theorem flA_22 : FL "EveryHand$Acts" 22 0 3 0 := ⟨_, rfl, by decide, rfl, rfl, rfl, by decide, gw 193 (by decide +kernel) (by decide +kernel)⟩
theorem flA_25 : FL "EveryHand$Acts" 25 0 4 0 := ⟨_, rfl, by decide, rfl, rfl, rfl, by decide, gw 194 (by decide +kernel) (by decide +kernel)⟩
theorem flA_28 : FL "EveryHand$Acts" 28 0 5 0 := ⟨_, rfl, by decide, rfl, rfl, rfl, by decide, gw 195 (by decide +kernel) (by decide +kernel)⟩
theorem flE_10 : FL "EveryHand" 10 5 0 2 := ⟨_, rfl, by decide, rfl, rfl, rfl, by decide, gw 242 (by decide +kernel) (by decide +kernel)⟩
theorem flE_101 : FL "EveryHand" 101 2 5 6 := ⟨_, rfl, by decide, rfl, rfl, rfl, by decide, gw 112 (by decide +kernel) (by decide +kernel)⟩
theorem flE_118 : FL "EveryHand" 118 2 1 0 := ⟨_, rfl, by decide, rfl, rfl, rfl, by decide, gw 104 (by decide +kernel) (by decide +kernel)⟩
theorem flE_128 : FL "EveryHand" 128 2 6 7 := ⟨_, rfl, by decide, rfl, rfl, rfl, by decide, gw 114 (by decide +kernel) (by decide +kernel)⟩
theorem flE_131 : FL "EveryHand" 131 2 7 8 := ⟨_, rfl, by decide, rfl, rfl, rfl, by decide, gw 116 (by decide +kernel) (by decide +kernel)⟩
theorem flE_137 : FL "EveryHand" 137 2 8 9 := ⟨_, rfl, by decide, rfl, rfl, rfl, by decide, gw 118 (by decide +kernel) (by decide +kernel)⟩
theorem flE_140 : FL "EveryHand" 140 2 9 10 := ⟨_, rfl, by decide, rfl, rfl, rfl, by decide, gw 122 (by decide +kernel) (by decide +kernel)⟩
theorem flE_16 : FL "EveryHand" 16 5 1 2 := ⟨_, rfl, by decide, rfl, rfl, rfl, by decide, gw 243 (by decide +kernel) (by decide +kernel)⟩
theorem flE_19 : FL "EveryHand" 19 5 2 20 := ⟨_, rfl, by decide, rfl, rfl, rfl, by decide, gw 244 (by decide +kernel) (by decide +kernel)⟩
theorem flE_207 : FL "EveryHand" 207 1 1 5 := ⟨_, rfl, by decide, rfl, rfl, rfl, by decide, gw 220 (by decide +kernel) (by decide +kernel)⟩
theorem flE_209 : FL "EveryHand" 209 1 2 6 := ⟨_, rfl, by decide, rfl, rfl, rfl, by decide, gw 222 (by decide +kernel) (by decide +kernel)⟩
theorem flE_22 : FL "EveryHand" 22 5 3 0 := ⟨_, rfl, by decide, rfl, rfl, rfl, by decide, gw 245 (by decide +kernel) (by decide +kernel)⟩
theorem flE_225 : FL "EveryHand" 225 1 0 4 := ⟨_, rfl, by decide, rfl, rfl, rfl, by decide, gw 218 (by decide +kernel) (by decide +kernel)⟩
theorem flE_241 : FL "EveryHand" 241 1 3 11 := ⟨_, rfl, by decide, rfl, rfl, rfl, by decide, gw 224 (by decide +kernel) (by decide +kernel)⟩
theorem flE_243 : FL "EveryHand" 243 1 5 13 := ⟨_, rfl, by decide, rfl, rfl, rfl, by decide, gw 228 (by decide +kernel) (by decide +kernel)⟩
theorem flE_246 : FL "EveryHand" 246 1 4 12 := ⟨_, rfl, by decide, rfl, rfl, rfl, by decide, gw 226 (by decide +kernel) (by decide +kernel)⟩
theorem flE_255 : FL "EveryHand" 255 0 1 0 := ⟨_, rfl, by decide, rfl, rfl, rfl, by decide, gw 191 (by decide +kernel) (by decide +kernel)⟩
theorem flE_262 : FL "EveryHand" 262 0 0 4 := ⟨_, rfl, by decide, rfl, rfl, rfl, by decide, gw 189 (by decide +kernel) (by decide +kernel)⟩
theorem flE_29 : FL "EveryHand" 29 5 4 28 := ⟨_, rfl, by decide, rfl, rfl, rfl, by decide, gw 246 (by decide +kernel) (by decide +kernel)⟩
theorem flE_36 : FL "EveryHand" 36 5 5 30 := ⟨_, rfl, by decide, rfl, rfl, rfl, by decide, gw 247 (by decide +kernel) (by decide +kernel)⟩
theorem flE_40 : FL "EveryHand" 40 5 6 33 := ⟨_, rfl, by decide, rfl, rfl, rfl, by decide, gw 248 (by decide +kernel) (by decide +kernel)⟩
theorem flE_44 : FL "EveryHand" 44 5 7 0 := ⟨_, rfl, by decide, rfl, rfl, rfl, by decide, gw 249 (by decide +kernel) (by decide +kernel)⟩
theorem flE_51 : FL "EveryHand" 51 5 8 34 := ⟨_, rfl, by decide, rfl, rfl, rfl, by decide, gw 250 (by decide +kernel) (by decide +kernel)⟩
theorem flE_58 : FL "EveryHand" 58 5 9 36 := ⟨_, rfl, by decide, rfl, rfl, rfl, by decide, gw 251 (by decide +kernel) (by decide +kernel)⟩
theorem flE_62 : FL "EveryHand" 62 3 1 0 := ⟨_, rfl, by decide, rfl, rfl, rfl, by decide, gw 154 (by decide +kernel) (by decide +kernel)⟩
theorem flE_65 : FL "EveryHand" 65 3 0 4 := ⟨_, rfl, by decide, rfl, rfl, rfl, by decide, gw 152 (by decide +kernel) (by decide +kernel)⟩
theorem flE_68 : FL "EveryHand" 68 2 2 0 := ⟨_, rfl, by decide, rfl, rfl, rfl, by decide, gw 106 (by decide +kernel) (by decide +kernel)⟩
theorem flE_75 : FL "EveryHand" 75 2 0 0 := ⟨_, rfl, by decide, rfl, rfl, rfl, by decide, gw 100 (by decide +kernel) (by decide +kernel)⟩
theorem flE_89 : FL "EveryHand" 89 2 3 4 := ⟨_, rfl, by decide, rfl, rfl, rfl, by decide, gw 108 (by decide +kernel) (by decide +kernel)⟩
theorem flE_92 : FL "EveryHand" 92 2 4 5 := ⟨_, rfl, by decide, rfl, rfl, rfl, by decide, gw 110 (by decide +kernel) (by decide +kernel)⟩
theorem flH_15 : FL "EveryHand$Host" 15 1 1 5 := ⟨_, rfl, by decide, rfl, rfl, rfl, by decide, gw 219 (by decide +kernel) (by decide +kernel)⟩
theorem flH_20 : FL "EveryHand$Host" 20 1 2 6 := ⟨_, rfl, by decide, rfl, rfl, rfl, by decide, gw 221 (by decide +kernel) (by decide +kernel)⟩
theorem flH_23 : FL "EveryHand$Host" 23 1 3 11 := ⟨_, rfl, by decide, rfl, rfl, rfl, by decide, gw 223 (by decide +kernel) (by decide +kernel)⟩
theorem flH_26 : FL "EveryHand$Host" 26 1 4 12 := ⟨_, rfl, by decide, rfl, rfl, rfl, by decide, gw 225 (by decide +kernel) (by decide +kernel)⟩
theorem flH_29 : FL "EveryHand$Host" 29 1 5 13 := ⟨_, rfl, by decide, rfl, rfl, rfl, by decide, gw 227 (by decide +kernel) (by decide +kernel)⟩
theorem flH_9 : FL "EveryHand$Host" 9 1 0 4 := ⟨_, rfl, by decide, rfl, rfl, rfl, by decide, gw 217 (by decide +kernel) (by decide +kernel)⟩
theorem flM_113 : FL "EveryHandModel" 113 6 9 0 := ⟨_, rfl, by decide, rfl, rfl, rfl, by decide, gw 804 (by decide +kernel) (by decide +kernel)⟩
theorem flM_116 : FL "EveryHandModel" 116 6 12 1 := ⟨_, rfl, by decide, rfl, rfl, rfl, by decide, gw 807 (by decide +kernel) (by decide +kernel)⟩
theorem flM_120 : FL "EveryHandModel" 120 6 13 0 := ⟨_, rfl, by decide, rfl, rfl, rfl, by decide, gw 808 (by decide +kernel) (by decide +kernel)⟩
theorem flM_13 : FL "EveryHandModel" 13 6 2 5 := ⟨_, rfl, by decide, rfl, rfl, rfl, by decide, gw 797 (by decide +kernel) (by decide +kernel)⟩
theorem flM_145 : FL "EveryHandModel" 145 6 14 0 := ⟨_, rfl, by decide, rfl, rfl, rfl, by decide, gw 809 (by decide +kernel) (by decide +kernel)⟩
theorem flM_155 : FL "EveryHandModel" 155 6 15 0 := ⟨_, rfl, by decide, rfl, rfl, rfl, by decide, gw 810 (by decide +kernel) (by decide +kernel)⟩
theorem flM_16 : FL "EveryHandModel" 16 6 3 6 := ⟨_, rfl, by decide, rfl, rfl, rfl, by decide, gw 798 (by decide +kernel) (by decide +kernel)⟩
theorem flM_165 : FL "EveryHandModel" 165 6 16 0 := ⟨_, rfl, by decide, rfl, rfl, rfl, by decide, gw 811 (by decide +kernel) (by decide +kernel)⟩
theorem flM_19 : FL "EveryHandModel" 19 6 5 7 := ⟨_, rfl, by decide, rfl, rfl, rfl, by decide, gw 800 (by decide +kernel) (by decide +kernel)⟩
theorem flM_190 : FL "EveryHandModel" 190 6 26 0 := ⟨_, rfl, by decide, rfl, rfl, rfl, by decide, gw 821 (by decide +kernel) (by decide +kernel)⟩
theorem flM_22 : FL "EveryHandModel" 22 6 6 0 := ⟨_, rfl, by decide, rfl, rfl, rfl, by decide, gw 801 (by decide +kernel) (by decide +kernel)⟩
theorem flM_26 : FL "EveryHandModel" 26 6 7 8 := ⟨_, rfl, by decide, rfl, rfl, rfl, by decide, gw 802 (by decide +kernel) (by decide +kernel)⟩
theorem flM_261 : FL "EveryHandModel" 261 6 24 0 := ⟨_, rfl, by decide, rfl, rfl, rfl, by decide, gw 819 (by decide +kernel) (by decide +kernel)⟩
theorem flM_29 : FL "EveryHandModel" 29 6 17 9 := ⟨_, rfl, by decide, rfl, rfl, rfl, by decide, gw 812 (by decide +kernel) (by decide +kernel)⟩
theorem flM_293 : FL "EveryHandModel" 293 6 37 0 := ⟨_, rfl, by decide, rfl, rfl, rfl, by decide, gw 832 (by decide +kernel) (by decide +kernel)⟩
theorem flM_299 : FL "EveryHandModel" 299 6 34 0 := ⟨_, rfl, by decide, rfl, rfl, rfl, by decide, gw 829 (by decide +kernel) (by decide +kernel)⟩
theorem flM_305 : FL "EveryHandModel" 305 6 33 0 := ⟨_, rfl, by decide, rfl, rfl, rfl, by decide, gw 828 (by decide +kernel) (by decide +kernel)⟩
theorem flM_317 : FL "EveryHandModel" 317 6 35 0 := ⟨_, rfl, by decide, rfl, rfl, rfl, by decide, gw 830 (by decide +kernel) (by decide +kernel)⟩
theorem flM_32 : FL "EveryHandModel" 32 6 18 10 := ⟨_, rfl, by decide, rfl, rfl, rfl, by decide, gw 813 (by decide +kernel) (by decide +kernel)⟩
theorem flM_320 : FL "EveryHandModel" 320 6 38 0 := ⟨_, rfl, by decide, rfl, rfl, rfl, by decide, gw 833 (by decide +kernel) (by decide +kernel)⟩
theorem flM_338 : FL "EveryHandModel" 338 6 41 0 := ⟨_, rfl, by decide, rfl, rfl, rfl, by decide, gw 836 (by decide +kernel) (by decide +kernel)⟩
theorem flM_349 : FL "EveryHandModel" 349 6 39 0 := ⟨_, rfl, by decide, rfl, rfl, rfl, by decide, gw 834 (by decide +kernel) (by decide +kernel)⟩
theorem flM_35 : FL "EveryHandModel" 35 6 19 11 := ⟨_, rfl, by decide, rfl, rfl, rfl, by decide, gw 814 (by decide +kernel) (by decide +kernel)⟩
theorem flM_38 : FL "EveryHandModel" 38 6 20 12 := ⟨_, rfl, by decide, rfl, rfl, rfl, by decide, gw 815 (by decide +kernel) (by decide +kernel)⟩
theorem flM_41 : FL "EveryHandModel" 41 6 21 13 := ⟨_, rfl, by decide, rfl, rfl, rfl, by decide, gw 816 (by decide +kernel) (by decide +kernel)⟩
theorem flM_44 : FL "EveryHandModel" 44 6 22 14 := ⟨_, rfl, by decide, rfl, rfl, rfl, by decide, gw 817 (by decide +kernel) (by decide +kernel)⟩
theorem flM_47 : FL "EveryHandModel" 47 6 23 15 := ⟨_, rfl, by decide, rfl, rfl, rfl, by decide, gw 818 (by decide +kernel) (by decide +kernel)⟩
theorem flM_50 : FL "EveryHandModel" 50 6 25 16 := ⟨_, rfl, by decide, rfl, rfl, rfl, by decide, gw 820 (by decide +kernel) (by decide +kernel)⟩
theorem flM_53 : FL "EveryHandModel" 53 6 27 17 := ⟨_, rfl, by decide, rfl, rfl, rfl, by decide, gw 822 (by decide +kernel) (by decide +kernel)⟩
theorem flM_56 : FL "EveryHandModel" 56 6 28 18 := ⟨_, rfl, by decide, rfl, rfl, rfl, by decide, gw 823 (by decide +kernel) (by decide +kernel)⟩
theorem flM_59 : FL "EveryHandModel" 59 6 29 19 := ⟨_, rfl, by decide, rfl, rfl, rfl, by decide, gw 824 (by decide +kernel) (by decide +kernel)⟩
theorem flM_63 : FL "EveryHandModel" 63 6 30 20 := ⟨_, rfl, by decide, rfl, rfl, rfl, by decide, gw 825 (by decide +kernel) (by decide +kernel)⟩
theorem flM_66 : FL "EveryHandModel" 66 6 31 21 := ⟨_, rfl, by decide, rfl, rfl, rfl, by decide, gw 826 (by decide +kernel) (by decide +kernel)⟩
theorem flM_69 : FL "EveryHandModel" 69 6 32 22 := ⟨_, rfl, by decide, rfl, rfl, rfl, by decide, gw 827 (by decide +kernel) (by decide +kernel)⟩
theorem flM_7 : FL "EveryHandModel" 7 6 1 4 := ⟨_, rfl, by decide, rfl, rfl, rfl, by decide, gw 796 (by decide +kernel) (by decide +kernel)⟩
theorem flM_72 : FL "EveryHandModel" 72 6 36 23 := ⟨_, rfl, by decide, rfl, rfl, rfl, by decide, gw 831 (by decide +kernel) (by decide +kernel)⟩
theorem flM_75 : FL "EveryHandModel" 75 6 40 24 := ⟨_, rfl, by decide, rfl, rfl, rfl, by decide, gw 835 (by decide +kernel) (by decide +kernel)⟩
theorem flM_78 : FL "EveryHandModel" 78 6 42 25 := ⟨_, rfl, by decide, rfl, rfl, rfl, by decide, gw 837 (by decide +kernel) (by decide +kernel)⟩
theorem flM_81 : FL "EveryHandModel" 81 6 0 0 := ⟨_, rfl, by decide, rfl, rfl, rfl, by decide, gw 795 (by decide +kernel) (by decide +kernel)⟩
theorem flM_88 : FL "EveryHandModel" 88 6 4 0 := ⟨_, rfl, by decide, rfl, rfl, rfl, by decide, gw 799 (by decide +kernel) (by decide +kernel)⟩
theorem flM_91 : FL "EveryHandModel" 91 6 8 0 := ⟨_, rfl, by decide, rfl, rfl, rfl, by decide, gw 803 (by decide +kernel) (by decide +kernel)⟩
theorem flM_96 : FL "EveryHandModel" 96 6 11 0 := ⟨_, rfl, by decide, rfl, rfl, rfl, by decide, gw 806 (by decide +kernel) (by decide +kernel)⟩
theorem flM_99 : FL "EveryHandModel" 99 6 10 0 := ⟨_, rfl, by decide, rfl, rfl, rfl, by decide, gw 805 (by decide +kernel) (by decide +kernel)⟩
theorem flT_15 : FL "EveryHand$Town" 15 2 1 0 := ⟨_, rfl, by decide, rfl, rfl, rfl, by decide, gw 102 (by decide +kernel) (by decide +kernel)⟩
theorem flT_18 : FL "EveryHand$Town" 18 2 2 0 := ⟨_, rfl, by decide, rfl, rfl, rfl, by decide, gw 105 (by decide +kernel) (by decide +kernel)⟩
theorem flT_21 : FL "EveryHand$Town" 21 2 3 4 := ⟨_, rfl, by decide, rfl, rfl, rfl, by decide, gw 107 (by decide +kernel) (by decide +kernel)⟩
theorem flT_25 : FL "EveryHand$Town" 25 2 4 5 := ⟨_, rfl, by decide, rfl, rfl, rfl, by decide, gw 109 (by decide +kernel) (by decide +kernel)⟩
theorem flT_28 : FL "EveryHand$Town" 28 2 5 6 := ⟨_, rfl, by decide, rfl, rfl, rfl, by decide, gw 111 (by decide +kernel) (by decide +kernel)⟩
theorem flT_31 : FL "EveryHand$Town" 31 2 6 7 := ⟨_, rfl, by decide, rfl, rfl, rfl, by decide, gw 113 (by decide +kernel) (by decide +kernel)⟩
theorem flT_34 : FL "EveryHand$Town" 34 2 7 8 := ⟨_, rfl, by decide, rfl, rfl, rfl, by decide, gw 115 (by decide +kernel) (by decide +kernel)⟩
theorem flT_37 : FL "EveryHand$Town" 37 2 8 9 := ⟨_, rfl, by decide, rfl, rfl, rfl, by decide, gw 117 (by decide +kernel) (by decide +kernel)⟩
theorem flT_40 : FL "EveryHand$Town" 40 2 9 10 := ⟨_, rfl, by decide, rfl, rfl, rfl, by decide, gw 119 (by decide +kernel) (by decide +kernel)⟩
theorem flT_9 : FL "EveryHand$Town" 9 2 0 0 := ⟨_, rfl, by decide, rfl, rfl, rfl, by decide, gw 98 (by decide +kernel) (by decide +kernel)⟩
theorem flW_15 : FL "EveryHand$Walks" 15 4 1 5 := ⟨_, rfl, by decide, rfl, rfl, rfl, by decide, gw 173 (by decide +kernel) (by decide +kernel)⟩
theorem flW_18 : FL "EveryHand$Walks" 18 4 2 0 := ⟨_, rfl, by decide, rfl, rfl, rfl, by decide, gw 174 (by decide +kernel) (by decide +kernel)⟩
theorem flW_22 : FL "EveryHand$Walks" 22 2 0 0 := ⟨_, rfl, by decide, rfl, rfl, rfl, by decide, gw 99 (by decide +kernel) (by decide +kernel)⟩
theorem flW_28 : FL "EveryHand$Walks" 28 2 9 10 := ⟨_, rfl, by decide, rfl, rfl, rfl, by decide, gw 120 (by decide +kernel) (by decide +kernel)⟩
theorem flW_9 : FL "EveryHand$Walks" 9 4 0 4 := ⟨_, rfl, by decide, rfl, rfl, rfl, by decide, gw 172 (by decide +kernel) (by decide +kernel)⟩
theorem flX_15 : FL "EveryHand$TownText" 15 3 1 0 := ⟨_, rfl, by decide, rfl, rfl, rfl, by decide, gw 153 (by decide +kernel) (by decide +kernel)⟩
theorem flX_19 : FL "EveryHand$TownText" 19 3 2 0 := ⟨_, rfl, by decide, rfl, rfl, rfl, by decide, gw 155 (by decide +kernel) (by decide +kernel)⟩
theorem flX_22 : FL "EveryHand$TownText" 22 3 3 0 := ⟨_, rfl, by decide, rfl, rfl, rfl, by decide, gw 156 (by decide +kernel) (by decide +kernel)⟩
theorem flX_59 : FL "EveryHand$TownText" 59 2 0 0 := ⟨_, rfl, by decide, rfl, rfl, rfl, by decide, gw 101 (by decide +kernel) (by decide +kernel)⟩
theorem flX_78 : FL "EveryHand$TownText" 78 2 1 0 := ⟨_, rfl, by decide, rfl, rfl, rfl, by decide, gw 103 (by decide +kernel) (by decide +kernel)⟩
theorem flX_9 : FL "EveryHand$TownText" 9 3 0 4 := ⟨_, rfl, by decide, rfl, rfl, rfl, by decide, gw 151 (by decide +kernel) (by decide +kernel)⟩
theorem flX_94 : FL "EveryHand$TownText" 94 2 9 10 := ⟨_, rfl, by decide, rfl, rfl, rfl, by decide, gw 121 (by decide +kernel) (by decide +kernel)⟩
theorem fw0_1 : FW 0 1 .int := fun q h => by cases h; exact ⟨rfl, by decide +kernel⟩
theorem fw0_2 : FW 0 2 .int := fun q h => by cases h; exact ⟨rfl, by decide +kernel⟩
theorem fw0_3 : FW 0 3 .int := fun q h => by cases h; exact ⟨rfl, by decide +kernel⟩
theorem fw0_4 : FW 0 4 .int := fun q h => by cases h; exact ⟨rfl, by decide +kernel⟩
theorem fw0_5 : FW 0 5 .boolean := fun q h => by cases h; exact ⟨rfl, by decide +kernel⟩
theorem fw2_0 : FW 2 0 .int := fun q h => by cases h; exact ⟨rfl, by decide +kernel⟩
theorem fw2_1 : FW 2 1 .int := fun q h => by cases h; exact ⟨rfl, by decide +kernel⟩
theorem fw2_2 : FW 2 2 .int := fun q h => by cases h; exact ⟨rfl, by decide +kernel⟩
theorem fw3_1 : FW 3 1 .int := fun q h => by cases h; exact ⟨rfl, by decide +kernel⟩
theorem fw3_2 : FW 3 2 .int := fun q h => by cases h; exact ⟨rfl, by decide +kernel⟩
theorem fw3_3 : FW 3 3 .int := fun q h => by cases h; exact ⟨rfl, by decide +kernel⟩
theorem fw4_2 : FW 4 2 .int := fun q h => by cases h; exact ⟨rfl, by decide +kernel⟩
theorem fw5_0 : FW 5 0 (.object "EveryHand$Town") := fun q h => by cases h; exact ⟨rfl, by decide +kernel⟩
theorem fw5_1 : FW 5 1 (.object "EveryHand$Town") := fun q h => by cases h; exact ⟨rfl, by decide +kernel⟩
theorem fw5_3 : FW 5 3 .boolean := fun q h => by cases h; exact ⟨rfl, by decide +kernel⟩
theorem fw5_7 : FW 5 7 .int := fun q h => by cases h; exact ⟨rfl, by decide +kernel⟩
theorem fw6_0 : FW 6 0 .int := fun q h => by cases h; exact ⟨rfl, by decide +kernel⟩
theorem fw6_4 : FW 6 4 .int := fun q h => by cases h; exact ⟨rfl, by decide +kernel⟩
theorem fw6_6 : FW 6 6 .int := fun q h => by cases h; exact ⟨rfl, by decide +kernel⟩
theorem fw6_8 : FW 6 8 .int := fun q h => by cases h; exact ⟨rfl, by decide +kernel⟩
theorem fw6_9 : FW 6 9 .int := fun q h => by cases h; exact ⟨rfl, by decide +kernel⟩
theorem fw6_10 : FW 6 10 .int := fun q h => by cases h; exact ⟨rfl, by decide +kernel⟩
theorem fw6_11 : FW 6 11 .int := fun q h => by cases h; exact ⟨rfl, by decide +kernel⟩
theorem fw6_12 : FW 6 12 .long := fun q h => by cases h; exact ⟨rfl, by decide +kernel⟩
theorem fw6_13 : FW 6 13 .int := fun q h => by cases h; exact ⟨rfl, by decide +kernel⟩
theorem fw6_14 : FW 6 14 .boolean := fun q h => by cases h; exact ⟨rfl, by decide +kernel⟩
theorem fw6_15 : FW 6 15 .int := fun q h => by cases h; exact ⟨rfl, by decide +kernel⟩
theorem fw6_16 : FW 6 16 .int := fun q h => by cases h; exact ⟨rfl, by decide +kernel⟩
theorem fw6_24 : FW 6 24 .int := fun q h => by cases h; exact ⟨rfl, by decide +kernel⟩
theorem fw6_26 : FW 6 26 .int := fun q h => by cases h; exact ⟨rfl, by decide +kernel⟩
theorem fw6_33 : FW 6 33 .int := fun q h => by cases h; exact ⟨rfl, by decide +kernel⟩
theorem fw6_34 : FW 6 34 .int := fun q h => by cases h; exact ⟨rfl, by decide +kernel⟩
theorem fw6_35 : FW 6 35 .int := fun q h => by cases h; exact ⟨rfl, by decide +kernel⟩
theorem fw6_37 : FW 6 37 .int := fun q h => by cases h; exact ⟨rfl, by decide +kernel⟩
theorem fw6_38 : FW 6 38 .boolean := fun q h => by cases h; exact ⟨rfl, by decide +kernel⟩
theorem fw6_39 : FW 6 39 .boolean := fun q h => by cases h; exact ⟨rfl, by decide +kernel⟩
theorem fw6_41 : FW 6 41 .int := fun q h => by cases h; exact ⟨rfl, by decide +kernel⟩
theorem acw_T : Cond.methodLink "EveryHand$Town" 43 arraycopyName ∈ GW ∧ Cond.native arraycopyName ∈ GW ∧ Cond.static arraycopyName ∈ GW ∧ Cond.initialized "java/lang/System" ∈ GW := ⟨gw 782 (by decide +kernel) (by decide +kernel), gw 784 (by decide +kernel) (by decide +kernel), gw 783 (by decide +kernel) (by decide +kernel), gw 83 (by decide +kernel) (by decide +kernel)⟩
theorem mlA_32 : Cond.methodLink "EveryHand$Acts" 32 ⟨"EveryHand$Acts", "perform", "(IIII)I"⟩ ∈ GW := gw 748 (by decide +kernel) (by decide +kernel)
theorem mlA_36 : Cond.methodLink "EveryHand$Acts" 36 ⟨"EveryHand$Acts", "bodyOf", "(II)I"⟩ ∈ GW := gw 752 (by decide +kernel) (by decide +kernel)
theorem mlA_40 : Cond.methodLink "EveryHand$Acts" 40 ⟨"EveryHand$Acts", "note", "(I)V"⟩ ∈ GW := gw 758 (by decide +kernel) (by decide +kernel)
theorem mlA_44 : Cond.methodLink "EveryHand$Acts" 44 ⟨"EveryHand$Acts", "share", "(I)I"⟩ ∈ GW := gw 762 (by decide +kernel) (by decide +kernel)
theorem mlT_53 : Cond.methodLink "EveryHand$Town" 53 ⟨"java/lang/Integer", "bitCount", "(I)I"⟩ ∈ GW := gw 533 (by decide +kernel) (by decide +kernel)
theorem mlT_59 : Cond.methodLink "EveryHand$Town" 59 ⟨"EveryHand$Town", "worth", "(I)I"⟩ ∈ GW := gw 444 (by decide +kernel) (by decide +kernel)
theorem mlT_62 : Cond.methodLink "EveryHand$Town" 62 ⟨"EveryHand$Town", "takers", "(I)I"⟩ ∈ GW := gw 618 (by decide +kernel) (by decide +kernel)
theorem mlT_65 : Cond.methodLink "EveryHand$Town" 65 ⟨"EveryHand$Town", "purse", "(I)I"⟩ ∈ GW := gw 433 (by decide +kernel) (by decide +kernel)
theorem mlT_68 : Cond.methodLink "EveryHand$Town" 68 ⟨"EveryHand$Town", "worthOfAll", "(I)I"⟩ ∈ GW := gw 437 (by decide +kernel) (by decide +kernel)
theorem mlT_71 : Cond.methodLink "EveryHand$Town" 71 ⟨"EveryHand$Town", "kindAllows", "(III)Z"⟩ ∈ GW := gw 490 (by decide +kernel) (by decide +kernel)
theorem mlT_75 : Cond.methodLink "EveryHand$Town" 75 ⟨"EveryHand$Town", "reach", "(II)I"⟩ ∈ GW := gw 486 (by decide +kernel) (by decide +kernel)
theorem mlT_79 : Cond.methodLink "EveryHand$Town" 79 ⟨"EveryHand$Town", "removeCoin", "(I)V"⟩ ∈ GW := gw 521 (by decide +kernel) (by decide +kernel)
theorem mlX_114 : Cond.methodLink "EveryHand$TownText" 114 ⟨"java/lang/String", "length", "()I"⟩ ∈ GW := gw 313 (by decide +kernel) (by decide +kernel)
theorem mlX_119 : Cond.methodLink "EveryHand$TownText" 119 ⟨"java/lang/String", "charAt", "(I)C"⟩ ∈ GW := gw 323 (by decide +kernel) (by decide +kernel)
theorem mlX_128 : Cond.methodLink "EveryHand$TownText" 128 ⟨"EveryHand$TownText", "isLetter", "(I)Z"⟩ ∈ GW := gw 296 (by decide +kernel) (by decide +kernel)
theorem mlX_25 : Cond.methodLink "EveryHand$TownText" 25 ⟨"EveryHand$Town", "empty", "()V"⟩ ∈ GW := gw 285 (by decide +kernel) (by decide +kernel)
theorem mlX_30 : Cond.methodLink "EveryHand$TownText" 30 ⟨"EveryHand$TownText", "step", "()V"⟩ ∈ GW := gw 289 (by decide +kernel) (by decide +kernel)
theorem mlX_33 : Cond.methodLink "EveryHand$TownText" 33 ⟨"EveryHand$TownText", "readStatement", "(LEveryHand$Town;)Z"⟩ ∈ GW := gw 304 (by decide +kernel) (by decide +kernel)
theorem mlX_39 : Cond.methodLink "EveryHand$TownText" 39 ⟨"EveryHand$TownText", "reads", "(Ljava/lang/String;)Z"⟩ ∈ GW := gw 309 (by decide +kernel) (by decide +kernel)
theorem mlX_43 : Cond.methodLink "EveryHand$TownText" 43 ⟨"EveryHand$TownText", "readPerson", "(LEveryHand$Town;)Z"⟩ ∈ GW := gw 361 (by decide +kernel) (by decide +kernel)
theorem mlX_48 : Cond.methodLink "EveryHand$TownText" 48 ⟨"EveryHand$TownText", "readKnow", "(LEveryHand$Town;)Z"⟩ ∈ GW := gw 379 (by decide +kernel) (by decide +kernel)
theorem mlX_51 : Cond.methodLink "EveryHand$TownText" 51 ⟨"EveryHand$TownText", "kindRead", "()I"⟩ ∈ GW := gw 387 (by decide +kernel) (by decide +kernel)
theorem mlX_55 : Cond.methodLink "EveryHand$TownText" 55 ⟨"EveryHand$TownText", "readCoin", "(LEveryHand$Town;I)Z"⟩ ∈ GW := gw 397 (by decide +kernel) (by decide +kernel)
theorem mlX_62 : Cond.methodLink "EveryHand$TownText" 62 ⟨"EveryHand$TownText", "readNumber", "(II)I"⟩ ∈ GW := gw 365 (by decide +kernel) (by decide +kernel)
theorem mlX_66 : Cond.methodLink "EveryHand$TownText" 66 ⟨"EveryHand$Town", "addPerson", "(I)I"⟩ ∈ GW := gw 369 (by decide +kernel) (by decide +kernel)
theorem mlX_70 : Cond.methodLink "EveryHand$TownText" 70 ⟨"EveryHand$TownText", "readEnd", "()Z"⟩ ∈ GW := gw 373 (by decide +kernel) (by decide +kernel)
theorem mlX_74 : Cond.methodLink "EveryHand$TownText" 74 ⟨"EveryHand$Town", "acquaint", "(IIZ)V"⟩ ∈ GW := gw 383 (by decide +kernel) (by decide +kernel)
theorem mlX_83 : Cond.methodLink "EveryHand$TownText" 83 ⟨"EveryHand$Town", "addCoin", "(III)I"⟩ ∈ GW := gw 402 (by decide +kernel) (by decide +kernel)
theorem mlX_89 : Cond.methodLink "EveryHand$TownText" 89 ⟨"EveryHand$TownText", "readHad", "(LEveryHand$Town;I)Z"⟩ ∈ GW := gw 407 (by decide +kernel) (by decide +kernel)
theorem mlX_98 : Cond.methodLink "EveryHand$TownText" 98 ⟨"EveryHand$TownText", "isDigit", "(I)Z"⟩ ∈ GW := gw 300 (by decide +kernel) (by decide +kernel)
theorem mlW_25 : Cond.methodLink "EveryHand$Walks" 25 ⟨"EveryHand$Town", "reach", "(II)I"⟩ ∈ GW := gw 560 (by decide +kernel) (by decide +kernel)
theorem mlW_31 : Cond.methodLink "EveryHand$Walks" 31 ⟨"EveryHand$Walks", "fill", "(II)V"⟩ ∈ GW := gw 561 (by decide +kernel) (by decide +kernel)
theorem mlW_39 : Cond.methodLink "EveryHand$Walks" 39 ⟨"EveryHand$Walks", "value", "(III)I"⟩ ∈ GW := gw 566 (by decide +kernel) (by decide +kernel)
theorem mlW_43 : Cond.methodLink "EveryHand$Walks" 43 ⟨"EveryHand$Walks", "takers", "(II)I"⟩ ∈ GW := gw 570 (by decide +kernel) (by decide +kernel)
theorem mlW_46 : Cond.methodLink "EveryHand$Walks" 46 ⟨"EveryHand$Walks", "at", "(II)I"⟩ ∈ GW := gw 574 (by decide +kernel) (by decide +kernel)
theorem mlE_104 : Cond.methodLink "EveryHand" 104 ⟨"EveryHand$Town", "areAcquainted", "(II)Z"⟩ ∈ GW := gw 457 (by decide +kernel) (by decide +kernel)
theorem mlE_108 : Cond.methodLink "EveryHand" 108 ⟨"EveryHand$Town", "acquaint", "(IIZ)V"⟩ ∈ GW := gw 461 (by decide +kernel) (by decide +kernel)
theorem mlE_112 : Cond.methodLink "EveryHand" 112 ⟨"EveryHand", "isKind", "(I)Z"⟩ ∈ GW := gw 466 (by decide +kernel) (by decide +kernel)
theorem mlE_115 : Cond.methodLink "EveryHand" 115 ⟨"EveryHand", "isA", "(I)Z"⟩ ∈ GW := gw 469 (by decide +kernel) (by decide +kernel)
theorem mlE_121 : Cond.methodLink "EveryHand" 121 ⟨"EveryHand$Town", "addCoin", "(III)I"⟩ ∈ GW := gw 472 (by decide +kernel) (by decide +kernel)
theorem mlE_125 : Cond.methodLink "EveryHand" 125 ⟨"EveryHand$Town", "hasCoin", "(I)Z"⟩ ∈ GW := gw 477 (by decide +kernel) (by decide +kernel)
theorem mlE_134 : Cond.methodLink "EveryHand" 134 ⟨"EveryHand$Town", "worth", "(I)I"⟩ ∈ GW := gw 481 (by decide +kernel) (by decide +kernel)
theorem mlE_143 : Cond.methodLink "EveryHand" 143 ⟨"EveryHand$Town", "takers", "(I)I"⟩ ∈ GW := gw 482 (by decide +kernel) (by decide +kernel)
theorem mlE_146 : Cond.methodLink "EveryHand" 146 ⟨"java/lang/Integer", "bitCount", "(I)I"⟩ ∈ GW := gw 502 (by decide +kernel) (by decide +kernel)
theorem mlE_151 : Cond.methodLink "EveryHand" 151 ⟨"EveryHand", "holds", "(II)Z"⟩ ∈ GW := gw 512 (by decide +kernel) (by decide +kernel)
theorem mlE_154 : Cond.methodLink "EveryHand" 154 ⟨"EveryHand$Town", "hand", "(II)Z"⟩ ∈ GW := gw 517 (by decide +kernel) (by decide +kernel)
theorem mlE_157 : Cond.methodLink "EveryHand" 157 ⟨"EveryHand$Town", "draw", "(I)I"⟩ ∈ GW := gw 529 (by decide +kernel) (by decide +kernel)
theorem mlE_160 : Cond.methodLink "EveryHand" 160 ⟨"EveryHand", "leastCoinToGive", "()I"⟩ ∈ GW := gw 539 (by decide +kernel) (by decide +kernel)
theorem mlE_164 : Cond.methodLink "EveryHand" 164 ⟨"EveryHand$Town", "removeCoin", "(I)V"⟩ ∈ GW := gw 547 (by decide +kernel) (by decide +kernel)
theorem mlE_168 : Cond.methodLink "EveryHand" 168 ⟨"EveryHand", "look", "(II)I"⟩ ∈ GW := gw 552 (by decide +kernel) (by decide +kernel)
theorem mlE_172 : Cond.methodLink "EveryHand" 172 ⟨"EveryHand$Walks", "firstTaker", "(II)I"⟩ ∈ GW := gw 586 (by decide +kernel) (by decide +kernel)
theorem mlE_175 : Cond.methodLink "EveryHand" 175 ⟨"EveryHand$Town", "purseFor", "(II)I"⟩ ∈ GW := gw 614 (by decide +kernel) (by decide +kernel)
theorem mlE_178 : Cond.methodLink "EveryHand" 178 ⟨"EveryHand$Town", "worthOfAll", "(I)I"⟩ ∈ GW := gw 619 (by decide +kernel) (by decide +kernel)
theorem mlE_181 : Cond.methodLink "EveryHand" 181 ⟨"EveryHand", "leftIfAcquainted", "(III)I"⟩ ∈ GW := gw 624 (by decide +kernel) (by decide +kernel)
theorem mlE_184 : Cond.methodLink "EveryHand" 184 ⟨"EveryHand$Town", "allSilver", "()I"⟩ ∈ GW := gw 640 (by decide +kernel) (by decide +kernel)
theorem mlE_187 : Cond.methodLink "EveryHand" 187 ⟨"EveryHand$Town", "acquaintances", "()I"⟩ ∈ GW := gw 644 (by decide +kernel) (by decide +kernel)
theorem mlE_190 : Cond.methodLink "EveryHand" 190 ⟨"EveryHand", "leftOfAll", "()I"⟩ ∈ GW := gw 648 (by decide +kernel) (by decide +kernel)
theorem mlE_193 : Cond.methodLink "EveryHand" 193 ⟨"EveryHand$Walks", "at", "(II)I"⟩ ∈ GW := gw 581 (by decide +kernel) (by decide +kernel)
theorem mlE_196 : Cond.methodLink "EveryHand" 196 ⟨"EveryHand", "isRowPart", "(II)Z"⟩ ∈ GW := gw 664 (by decide +kernel) (by decide +kernel)
theorem mlE_199 : Cond.methodLink "EveryHand" 199 ⟨"EveryHand$Walks", "takers", "(II)I"⟩ ∈ GW := gw 676 (by decide +kernel) (by decide +kernel)
theorem mlE_201 : Cond.methodLink "EveryHand" 201 ⟨"EveryHand$Host", "hasSheet", "(I)Z"⟩ ∈ GW := gw 681 (by decide +kernel) (by decide +kernel)
theorem mlE_204 : Cond.methodLink "EveryHand" 204 ⟨"EveryHand$Host", "refusalAs", "(II)I"⟩ ∈ GW := gw 685 (by decide +kernel) (by decide +kernel)
theorem mlE_221 : Cond.methodLink "EveryHand" 221 ⟨"EveryHand$Host", "lay", "(III)V"⟩ ∈ GW := gw 695 (by decide +kernel) (by decide +kernel)
theorem mlE_228 : Cond.methodLink "EveryHand" 228 ⟨"EveryHand$Host", "narrowed", "(II)I"⟩ ∈ GW := gw 703 (by decide +kernel) (by decide +kernel)
theorem mlE_231 : Cond.methodLink "EveryHand" 231 ⟨"EveryHand$Host", "hasShelf", "(I)Z"⟩ ∈ GW := gw 715 (by decide +kernel) (by decide +kernel)
theorem mlE_234 : Cond.methodLink "EveryHand" 234 ⟨"EveryHand$Host", "holdCoin", "(II)V"⟩ ∈ GW := gw 719 (by decide +kernel) (by decide +kernel)
theorem mlE_238 : Cond.methodLink "EveryHand" 238 ⟨"EveryHand$Host", "holdRow", "(II)V"⟩ ∈ GW := gw 723 (by decide +kernel) (by decide +kernel)
theorem mlE_249 : Cond.methodLink "EveryHand" 249 ⟨"EveryHand", "coinOnShelf", "(I)I"⟩ ∈ GW := gw 731 (by decide +kernel) (by decide +kernel)
theorem mlE_252 : Cond.methodLink "EveryHand" 252 ⟨"EveryHand", "isUnder", "(II)Z"⟩ ∈ GW := gw 735 (by decide +kernel) (by decide +kernel)
theorem mlE_258 : Cond.methodLink "EveryHand" 258 ⟨"EveryHand$Acts", "start", "(IIIII)I"⟩ ∈ GW := gw 744 (by decide +kernel) (by decide +kernel)
theorem mlE_265 : Cond.methodLink "EveryHand" 265 ⟨"EveryHand$Town", "become", "(LEveryHand$Town;)V"⟩ ∈ GW := gw 778 (by decide +kernel) (by decide +kernel)
theorem mlE_272 : Cond.methodLink "EveryHand" 272 ⟨"EveryHand$Walks", "survey", "(LEveryHand$Town;II)V"⟩ ∈ GW := gw 556 (by decide +kernel) (by decide +kernel)
theorem mlE_71 : Cond.methodLink "EveryHand" 71 ⟨"EveryHand$TownText", "readInto", "(LEveryHand$Town;)I"⟩ ∈ GW := gw 281 (by decide +kernel) (by decide +kernel)
theorem mlE_78 : Cond.methodLink "EveryHand" 78 ⟨"EveryHand", "isRank", "(I)Z"⟩ ∈ GW := gw 417 (by decide +kernel) (by decide +kernel)
theorem mlE_82 : Cond.methodLink "EveryHand" 82 ⟨"EveryHand$Town", "addPerson", "(I)I"⟩ ∈ GW := gw 420 (by decide +kernel) (by decide +kernel)
theorem mlE_86 : Cond.methodLink "EveryHand" 86 ⟨"EveryHand$Town", "hasPerson", "(I)Z"⟩ ∈ GW := gw 425 (by decide +kernel) (by decide +kernel)
theorem mlE_95 : Cond.methodLink "EveryHand" 95 ⟨"EveryHand$Town", "riches", "(I)I"⟩ ∈ GW := gw 429 (by decide +kernel) (by decide +kernel)
theorem mlE_98 : Cond.methodLink "EveryHand" 98 ⟨"EveryHand$Town", "purse", "(I)I"⟩ ∈ GW := gw 448 (by decide +kernel) (by decide +kernel)
theorem mlM_102 : Cond.methodLink "EveryHandModel" 102 ⟨"EveryHandModel", "byteAt", "(I)I"⟩ ∈ GW := gw 942 (by decide +kernel) (by decide +kernel)
theorem mlM_106 : Cond.methodLink "EveryHandModel" 106 ⟨"EveryHandModel", "isLetter", "(I)Z"⟩ ∈ GW := gw 946 (by decide +kernel) (by decide +kernel)
theorem mlM_110 : Cond.methodLink "EveryHandModel" 110 ⟨"EveryHandModel", "isDigit", "(I)Z"⟩ ∈ GW := gw 949 (by decide +kernel) (by decide +kernel)
theorem mlM_131 : Cond.methodLink "EveryHandModel" 131 ⟨"EveryHandModel", "isWord", "(J)Z"⟩ ∈ GW := gw 956 (by decide +kernel) (by decide +kernel)
theorem mlM_149 : Cond.methodLink "EveryHandModel" 149 ⟨"EveryHandModel", "advance", "()V"⟩ ∈ GW := gw 938 (by decide +kernel) (by decide +kernel)
theorem mlM_152 : Cond.methodLink "EveryHandModel" 152 ⟨"EveryHandModel", "isMark", "(I)Z"⟩ ∈ GW := gw 972 (by decide +kernel) (by decide +kernel)
theorem mlM_158 : Cond.methodLink "EveryHandModel" 158 ⟨"EveryHandModel", "wantNumber", "(II)I"⟩ ∈ GW := gw 964 (by decide +kernel) (by decide +kernel)
theorem mlM_162 : Cond.methodLink "EveryHandModel" 162 ⟨"EveryHandModel", "wantEnd", "()V"⟩ ∈ GW := gw 968 (by decide +kernel) (by decide +kernel)
theorem mlM_174 : Cond.methodLink "EveryHandModel" 174 ⟨"EveryHandModel", "wantPerson", "()V"⟩ ∈ GW := gw 960 (by decide +kernel) (by decide +kernel)
theorem mlM_179 : Cond.methodLink "EveryHandModel" 179 ⟨"EveryHandModel", "wantKnow", "()V"⟩ ∈ GW := gw 977 (by decide +kernel) (by decide +kernel)
theorem mlM_182 : Cond.methodLink "EveryHandModel" 182 ⟨"EveryHandModel", "kindHere", "()I"⟩ ∈ GW := gw 981 (by decide +kernel) (by decide +kernel)
theorem mlM_186 : Cond.methodLink "EveryHandModel" 186 ⟨"EveryHandModel", "wantCoin", "(I)V"⟩ ∈ GW := gw 991 (by decide +kernel) (by decide +kernel)
theorem mlM_193 : Cond.methodLink "EveryHandModel" 193 ⟨"EveryHandModel", "its", "(II)I"⟩ ∈ GW := gw 1013 (by decide +kernel) (by decide +kernel)
theorem mlM_196 : Cond.methodLink "EveryHandModel" 196 ⟨"EveryHandModel", "has", "(II)Z"⟩ ∈ GW := gw 1021 (by decide +kernel) (by decide +kernel)
theorem mlM_200 : Cond.methodLink "EveryHandModel" 200 ⟨"EveryHandModel", "worth", "(I)I"⟩ ∈ GW := gw 1024 (by decide +kernel) (by decide +kernel)
theorem mlM_203 : Cond.methodLink "EveryHandModel" 203 ⟨"EveryHandModel", "isPerson", "(I)Z"⟩ ∈ GW := gw 1005 (by decide +kernel) (by decide +kernel)
theorem mlM_206 : Cond.methodLink "EveryHandModel" 206 ⟨"EveryHandModel", "heldBy", "(I)I"⟩ ∈ GW := gw 1009 (by decide +kernel) (by decide +kernel)
theorem mlM_209 : Cond.methodLink "EveryHandModel" 209 ⟨"EveryHandModel", "worthOf", "(I)I"⟩ ∈ GW := gw 1017 (by decide +kernel) (by decide +kernel)
theorem mlM_212 : Cond.methodLink "EveryHandModel" 212 ⟨"EveryHandModel", "swapsKnow", "(II)V"⟩ ∈ GW := gw 1036 (by decide +kernel) (by decide +kernel)
theorem mlM_216 : Cond.methodLink "EveryHandModel" 216 ⟨"EveryHandModel", "mayBe", "(IIII)Z"⟩ ∈ GW := gw 1060 (by decide +kernel) (by decide +kernel)
theorem mlM_220 : Cond.methodLink "EveryHandModel" 220 ⟨"EveryHandModel", "mayNow", "(II)Z"⟩ ∈ GW := gw 1056 (by decide +kernel) (by decide +kernel)
theorem mlM_223 : Cond.methodLink "EveryHandModel" 223 ⟨"EveryHandModel", "isCoin", "(I)Z"⟩ ∈ GW := gw 1048 (by decide +kernel) (by decide +kernel)
theorem mlM_226 : Cond.methodLink "EveryHandModel" 226 ⟨"EveryHandModel", "mayAll", "(I)I"⟩ ∈ GW := gw 1052 (by decide +kernel) (by decide +kernel)
theorem mlM_229 : Cond.methodLink "EveryHandModel" 229 ⟨"EveryHandModel", "ones", "(I)I"⟩ ∈ GW := gw 1072 (by decide +kernel) (by decide +kernel)
theorem mlM_232 : Cond.methodLink "EveryHandModel" 232 ⟨"EveryHandModel", "everybody", "()I"⟩ ∈ GW := gw 1087 (by decide +kernel) (by decide +kernel)
theorem mlM_235 : Cond.methodLink "EveryHandModel" 235 ⟨"EveryHandModel", "goes", "(I)V"⟩ ∈ GW := gw 1091 (by decide +kernel) (by decide +kernel)
theorem mlM_238 : Cond.methodLink "EveryHandModel" 238 ⟨"EveryHandModel", "gives", "(II)Z"⟩ ∈ GW := gw 1083 (by decide +kernel) (by decide +kernel)
theorem mlM_242 : Cond.methodLink "EveryHandModel" 242 ⟨"EveryHandModel", "firstFree", "()I"⟩ ∈ GW := gw 1104 (by decide +kernel) (by decide +kernel)
theorem mlM_245 : Cond.methodLink "EveryHandModel" 245 ⟨"EveryHandModel", "lot", "(I)I"⟩ ∈ GW := gw 1108 (by decide +kernel) (by decide +kernel)
theorem mlM_248 : Cond.methodLink "EveryHandModel" 248 ⟨"EveryHandModel", "findOne", "(III)V"⟩ ∈ GW := gw 1125 (by decide +kernel) (by decide +kernel)
theorem mlM_252 : Cond.methodLink "EveryHandModel" 252 ⟨"EveryHandModel", "findAll", "(I)V"⟩ ∈ GW := gw 1121 (by decide +kernel) (by decide +kernel)
theorem mlM_255 : Cond.methodLink "EveryHandModel" 255 ⟨"EveryHandModel", "placeOf", "(I)I"⟩ ∈ GW := gw 1129 (by decide +kernel) (by decide +kernel)
theorem mlM_258 : Cond.methodLink "EveryHandModel" 258 ⟨"EveryHandModel", "leftOf", "(I)I"⟩ ∈ GW := gw 1117 (by decide +kernel) (by decide +kernel)
theorem mlM_264 : Cond.methodLink "EveryHandModel" 264 ⟨"EveryHandModel", "findRow", "(I)V"⟩ ∈ GW := gw 1149 (by decide +kernel) (by decide +kernel)
theorem mlM_267 : Cond.methodLink "EveryHandModel" 267 ⟨"EveryHandModel", "given", "(II)I"⟩ ∈ GW := gw 1165 (by decide +kernel) (by decide +kernel)
theorem mlM_270 : Cond.methodLink "EveryHandModel" 270 ⟨"EveryHandModel", "isSide", "(I)Z"⟩ ∈ GW := gw 1177 (by decide +kernel) (by decide +kernel)
theorem mlM_273 : Cond.methodLink "EveryHandModel" 273 ⟨"EveryHandModel", "isRow", "(II)Z"⟩ ∈ GW := gw 1200 (by decide +kernel) (by decide +kernel)
theorem mlM_276 : Cond.methodLink "EveryHandModel" 276 ⟨"EveryHandModel", "isShelf", "(I)Z"⟩ ∈ GW := gw 1216 (by decide +kernel) (by decide +kernel)
theorem mlM_279 : Cond.methodLink "EveryHandModel" 279 ⟨"EveryHandModel", "lacksSort", "(II)I"⟩ ∈ GW := gw 1219 (by decide +kernel) (by decide +kernel)
theorem mlM_284 : Cond.methodLink "EveryHandModel" 284 ⟨"EveryHandModel", "isHeld", "(II)Z"⟩ ∈ GW := gw 1240 (by decide +kernel) (by decide +kernel)
theorem mlM_287 : Cond.methodLink "EveryHandModel" 287 ⟨"EveryHandModel", "kindOn", "(I)I"⟩ ∈ GW := gw 1248 (by decide +kernel) (by decide +kernel)
theorem mlM_290 : Cond.methodLink "EveryHandModel" 290 ⟨"EveryHandModel", "isUnder", "(II)Z"⟩ ∈ GW := gw 1252 (by decide +kernel) (by decide +kernel)
theorem mlM_296 : Cond.methodLink "EveryHandModel" 296 ⟨"EveryHandModel", "ran", "(I)V"⟩ ∈ GW := gw 1267 (by decide +kernel) (by decide +kernel)
theorem mlM_302 : Cond.methodLink "EveryHandModel" 302 ⟨"EveryHandModel", "plainRings", "(I)I"⟩ ∈ GW := gw 1271 (by decide +kernel) (by decide +kernel)
theorem mlM_308 : Cond.methodLink "EveryHandModel" 308 ⟨"EveryHandModel", "crownRings", "(I)I"⟩ ∈ GW := gw 1263 (by decide +kernel) (by decide +kernel)
theorem mlM_311 : Cond.methodLink "EveryHandModel" 311 ⟨"EveryHandModel", "ringsIt", "(I)I"⟩ ∈ GW := gw 1259 (by decide +kernel) (by decide +kernel)
theorem mlM_314 : Cond.methodLink "EveryHandModel" 314 ⟨"EveryHandModel", "plainWeighs", "(I)I"⟩ ∈ GW := gw 1279 (by decide +kernel) (by decide +kernel)
theorem mlM_323 : Cond.methodLink "EveryHandModel" 323 ⟨"EveryHandModel", "plainShares", "(I)I"⟩ ∈ GW := gw 1287 (by decide +kernel) (by decide +kernel)
theorem mlM_326 : Cond.methodLink "EveryHandModel" 326 ⟨"EveryHandModel", "weighsIt", "(I)I"⟩ ∈ GW := gw 1275 (by decide +kernel) (by decide +kernel)
theorem mlM_329 : Cond.methodLink "EveryHandModel" 329 ⟨"EveryHandModel", "plainTells", "(I)I"⟩ ∈ GW := gw 1295 (by decide +kernel) (by decide +kernel)
theorem mlM_332 : Cond.methodLink "EveryHandModel" 332 ⟨"EveryHandModel", "sharesIt", "(I)I"⟩ ∈ GW := gw 1283 (by decide +kernel) (by decide +kernel)
theorem mlM_335 : Cond.methodLink "EveryHandModel" 335 ⟨"EveryHandModel", "tellsIt", "(I)I"⟩ ∈ GW := gw 1291 (by decide +kernel) (by decide +kernel)
theorem mlM_341 : Cond.methodLink "EveryHandModel" 341 ⟨"EveryHandModel", "moveRow", "([IIZ)V"⟩ ∈ GW := gw 1315 (by decide +kernel) (by decide +kernel)
theorem mlM_345 : Cond.methodLink "EveryHandModel" 345 ⟨"EveryHandModel", "moveAll", "(Z)V"⟩ ∈ GW := gw 1311 (by decide +kernel) (by decide +kernel)
theorem mlM_84 : Cond.methodLink "EveryHandModel" 84 ⟨"EveryHandModel", "in", "(III)Z"⟩ ∈ GW := gw 930 (by decide +kernel) (by decide +kernel)
theorem mlJS_1059 : Cond.methodLink "java/lang/String" 1059 ⟨"jdk/internal/util/Preconditions", "checkIndex", "(IILjava/util/function/BiFunction;)I"⟩ ∈ GW := gw 339 (by decide +kernel) (by decide +kernel)
theorem mlJS_335 : Cond.methodLink "java/lang/String" 335 ⟨"java/lang/String", "coder", "()B"⟩ ∈ GW := gw 317 (by decide +kernel) (by decide +kernel)
theorem mlJS_492 : Cond.methodLink "java/lang/String" 492 ⟨"java/lang/String", "isLatin1", "()Z"⟩ ∈ GW := gw 327 (by decide +kernel) (by decide +kernel)
theorem mlJS_495 : Cond.methodLink "java/lang/String" 495 ⟨"java/lang/StringLatin1", "charAt", "([BI)C"⟩ ∈ GW := gw 331 (by decide +kernel) (by decide +kernel)
theorem mlJL_9 : Cond.methodLink "java/lang/StringLatin1" 9 ⟨"java/lang/String", "checkIndex", "(II)V"⟩ ∈ GW := gw 334 (by decide +kernel) (by decide +kernel)
